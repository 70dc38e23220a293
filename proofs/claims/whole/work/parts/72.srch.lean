/-! ===== the search, as numbers ===== -/
noncomputable def cif {α : Type} (P : Prop) (a b : α) : α := @ite α P (Classical.propDecidable P) a b
theorem cif_t {α : Type} {P : Prop} {a b : α} (h : P) : cif P a b = a := if_pos h
theorem cif_f {α : Type} {P : Prop} {a b : α} (h : ¬ P) : cif P a b = b := if_neg h
def updN (g : Nat → Nat) (p v : Nat) : Nat → Nat := fun q => if q = p then v else g q
theorem updN_eq {g : Nat → Nat} {p v : Nat} : updN g p v p = v := if_pos rfl
theorem updN_ne {g : Nat → Nat} {p v q : Nat} (h : q ≠ p) : updN g p v q = g q := if_neg h
abbrev Out : Type := Nat × (Nat → Nat) × Nat
noncomputable def tryV (st : (Nat → Nat) → Nat → Prop) (nxt : (Nat → Nat) → Nat → Out) (p : Nat) : Nat → (Nat → Nat) → Nat → Out
  | 0, g, tr => (0, g, tr)
  | m + 1, g, tr => if 4000 ≤ tr then (2, g, tr) else
    (fun r : Out => if r.1 = 0 then tryV st nxt p m r.2.1 r.2.2 else r) (cif (st (updN g p (9 - m)) p) (nxt (updN g p (9 - m)) (tr + 1)) (0, updN g p (9 - m), tr + 1))
noncomputable def tryP (st : (Nat → Nat) → Nat → Prop) (nm : (Nat → Nat) → Prop) (M : Nat) : Nat → (Nat → Nat) → Nat → Out
  | 0, g, tr => (cif (nm g) 1 0, g, tr)
  | r + 1, g, tr => tryV st (tryP st nm M r) (M - (r + 1)) 10 g tr
/-- what holds of a search that has ended -/
def okO (Q : (Nat → Nat) → Nat → Prop) (nm : (Nat → Nat) → Prop) (M p : Nat) (g : Nat → Nat) (o : Out) : Prop :=
  (∀ q, q < p → o.2.1 q = g q) ∧ o.2.2 ≤ 4000 ∧ (o.1 = 0 ∨ o.1 = 2 ∨ (o.1 = 1 ∧ nm o.2.1 ∧ ∀ q, q < M → Q o.2.1 q))
theorem tryV_ok {st Q : (Nat → Nat) → Nat → Prop} {nm : (Nat → Nat) → Prop} {nxt : (Nat → Nat) → Nat → Out} {M p : Nat} (hQ : ∀ g g' q, (∀ x, x ≤ q → g x = g' x) → Q g q → Q g' q) (hst : ∀ g q, st g q → g q ≤ 9 → Q g q)
    (hn : ∀ g tr, tr ≤ 4000 → (∀ q, q < p + 1 → Q g q) → okO Q nm M (p + 1) g (nxt g tr)) : ∀ m g tr, tr ≤ 4000 → (∀ q, q < p → Q g q) → okO Q nm M p g (tryV st nxt p m g tr) := by
  intro m
  induction m with
  | zero => exact fun g tr h hg => ⟨fun q hq => rfl, h, Or.inl rfl⟩
  | succ m ih =>
    intro g tr h hg
    unfold tryV
    by_cases q : 4000 ≤ tr
    · rw [if_pos q]
      exact ⟨fun q hq => rfl, h, Or.inr (Or.inl rfl)⟩
    rw [if_neg q]
    have agr : ∀ x, x < p → updN g p (9 - m) x = g x := fun x hx => updN_ne (by omega)
    have hg1 : ∀ q, q < p → Q (updN g p (9 - m)) q := fun q hq => hQ g _ q (fun x hx => (agr x (by omega)).symm) (hg q hq)
    have hr : okO Q nm M p g (cif (st (updN g p (9 - m)) p) (nxt (updN g p (9 - m)) (tr + 1)) (0, updN g p (9 - m), tr + 1)) := by
      by_cases z : st (updN g p (9 - m)) p
      · rw [cif_t z]
        have := hn (updN g p (9 - m)) (tr + 1) (by omega) (fun q hq => by
          by_cases e : q = p
          · rw [e]; exact hst _ _ z (by rw [updN_eq]; omega)
          · exact hg1 q (by omega))
        exact ⟨fun q hq => (this.1 q (by omega)).trans (agr q hq), this.2⟩
      · rw [cif_f z]
        exact ⟨fun q hq => agr q hq, by show tr + 1 ≤ 4000; omega, Or.inl rfl⟩
    generalize cif (st (updN g p (9 - m)) p) (nxt (updN g p (9 - m)) (tr + 1)) (0, updN g p (9 - m), tr + 1) = r at hr
    show okO Q nm M p g (if r.1 = 0 then tryV st nxt p m r.2.1 r.2.2 else r)
    by_cases z : r.1 = 0
    · rw [if_pos z]
      have := ih r.2.1 r.2.2 hr.2.1 (fun q hq => hQ g _ q (fun x hx => (hr.1 x (by omega)).symm) (hg q hq))
      exact ⟨fun q hq => (this.1 q hq).trans (hr.1 q hq), this.2⟩
    · rw [if_neg z]
      exact hr
theorem tryP_ok {st Q : (Nat → Nat) → Nat → Prop} {nm : (Nat → Nat) → Prop} {M : Nat} (hQ : ∀ g g' q, (∀ x, x ≤ q → g x = g' x) → Q g q → Q g' q) (hst : ∀ g q, st g q → g q ≤ 9 → Q g q) : ∀ r, r ≤ M → ∀ g tr, tr ≤ 4000 → (∀ q, q < M - r → Q g q) → okO Q nm M (M - r) g (tryP st nm M r g tr) := by
  intro r
  induction r with
  | zero =>
    intro hr g tr h hg
    unfold tryP
    refine ⟨fun q hq => rfl, h, ?_⟩
    by_cases z : nm g
    · exact Or.inr (Or.inr ⟨cif_t z, z, hg⟩)
    · exact Or.inl (cif_f z)
  | succ r ih =>
    intro hr g tr h hg
    unfold tryP
    refine tryV_ok hQ hst (fun g2 tr2 h2 hg2 => ?_) 10 g tr h hg
    have := ih (by omega) g2 tr2 h2
    rw [show M - r = M - (r + 1) + 1 by omega] at this
    exact this hg2
/-! keys, places -/
def key (lo t : Nat) : Nat := if t < lo then t else t + 1
def ix (n lo q : Nat) : Nat := 5 * key lo (q / n) + q % n
theorem key_inj {lo a b : Nat} (h : key lo a = key lo b) : a = b := by
  unfold key at h
  split at h <;> split at h <;> omega
theorem key_ne (lo a : Nat) : key lo a ≠ lo := by
  unfold key
  split <;> omega
theorem ix_inj {n lo q p : Nat} (hn : 0 < n) (h5 : n ≤ 5) (h : ix n lo q = ix n lo p) : q = p := by
  unfold ix at h
  have h1 := Nat.mod_lt q hn
  have h2 := Nat.mod_lt p hn
  have e : key lo (q / n) = key lo (p / n) := by omega
  have e1 := key_inj e
  have e2 : q % n = p % n := by omega
  have d1 := Nat.div_add_mod q n
  have d2 := Nat.div_add_mod p n
  rw [e1, e2] at d1
  omega
theorem ix_lo {n lo q c : Nat} (hn : 0 < n) (h5 : n ≤ 5) (hc : c < 5) : ix n lo q ≠ 5 * lo + c := by
  unfold ix
  have h1 := Nat.mod_lt q hn
  have := key_ne lo (q / n)
  omega
theorem dm_s {n p : Nat} (h : p % n + 1 < n) : (p + 1) / n = p / n ∧ (p + 1) % n = p % n + 1 := by
  have hn : 0 < n := by omega
  have d := Nat.div_add_mod p n
  have e : p + 1 = (p % n + 1) + n * (p / n) := by omega
  rw [e, Nat.add_mul_div_left _ _ hn, Nat.add_mul_mod_self_left, Nat.div_eq_of_lt h, Nat.mod_eq_of_lt h]
  exact ⟨Nat.zero_add _, rfl⟩
theorem dm_n {n p : Nat} (hn : 0 < n) (h : p % n + 1 = n) : (p + 1) / n = p / n + 1 ∧ (p + 1) % n = 0 := by
  have d := Nat.div_add_mod p n
  have e : p + 1 = n * (p / n + 1) := by rw [Nat.mul_add, Nat.mul_one]; omega
  rw [e, Nat.mul_div_cancel_left _ hn, Nat.mul_mod_right]
  exact ⟨rfl, rfl⟩
theorem dm_b {n p : Nat} (hn : 0 < n) (h : n ≤ p) : (p - n) / n = p / n - 1 ∧ (p - n) % n = p % n := by
  obtain ⟨x, rfl⟩ : ∃ x, p = x + n := ⟨p - n, by omega⟩
  rw [show x + n - n = x by omega, Nat.add_div_right _ hn, Nat.add_mod_right]
  exact ⟨rfl, rfl⟩
theorem dm_of {n t c : Nat} (h : c < n) : (t * n + c) / n = t ∧ (t * n + c) % n = c := by
  have hn : 0 < n := by omega
  rw [Nat.mul_comm, Nat.add_comm, Nat.add_mul_div_left _ _ hn, Nat.add_mul_mod_self_left, Nat.div_eq_of_lt h, Nat.mod_eq_of_lt h]
  exact ⟨by omega, rfl⟩
theorem dm_lt {n t c T : Nat} (h : c < n) (ht : t < T) : t * n + c < T * n := by
  have : (t + 1) * n ≤ T * n := Nat.mul_le_mul_right n ht
  rw [Nat.add_mul, Nat.one_mul] at this
  omega
theorem dm_T {n p T : Nat} (hn : 0 < n) (h : p < T * n) : p / n < T := (Nat.div_lt_iff_lt_mul hn).mpr h
theorem dm_e (n p : Nat) : p = p / n * n + p % n := by rw [Nat.mul_comm]; exact (Nat.div_add_mod p n).symm
theorem dm_le {n t c p : Nat} (hc : c < n) (ht : t < p / n) : t * n + c < p := by
  have h := dm_lt hc ht
  have := dm_e n p
  omega
/-! what the doors' chambers have of the keys up to a turn -/
def mk (op : Nat → Nat → Bool) (lo n : Nat) (g : Nat → Nat) (j c : Nat) : Nat → Nat
  | 0 => 0
  | t + 1 => if op (key lo t) j then mk op lo n g j c t ||| 2 ^ (g (t * n + c)) else mk op lo n g j c t
theorem mk_congr {op : Nat → Nat → Bool} {lo n : Nat} {g g' : Nat → Nat} {j c : Nat} : ∀ t, (∀ t', t' < t → g (t' * n + c) = g' (t' * n + c)) → mk op lo n g j c t = mk op lo n g' j c t
  | 0, _ => rfl
  | t + 1, h => by
    unfold mk
    rw [mk_congr t (fun t' h' => h t' (by omega)), h t (by omega)]
theorem mk_lt {op : Nat → Nat → Bool} {lo n : Nat} {g : Nat → Nat} {j c : Nat} : ∀ t, (∀ t', t' < t → g (t' * n + c) ≤ 9) → mk op lo n g j c t < 1024
  | 0, _ => (by decide : 0 < 1024)
  | t + 1, h => by
    have ih := mk_lt (op := op) (lo := lo) (j := j) t (fun t' h' => h t' (by omega))
    unfold mk
    split
    · exact set_lt (k := 10) ih (by have := h t (by omega); omega)
    · exact ih
theorem mk_0 {op : Nat → Nat → Bool} {lo n : Nat} {g : Nat → Nat} {j c : Nat} : ∀ T, mk op lo n g j c T = 0 ↔ ∀ t, t < T → op (key lo t) j = false
  | 0 => ⟨fun _ t ht => absurd ht (by omega), fun _ => rfl⟩
  | T + 1 => by
    have ih := mk_0 (op := op) (lo := lo) (n := n) (g := g) (j := j) (c := c) T
    unfold mk
    constructor
    · intro h t ht
      split at h
      · have : (mk op lo n g j c T ||| 2 ^ g (T * n + c)).testBit (g (T * n + c)) = true := by rw [Nat.testBit_or, Nat.testBit_two_pow_self, Bool.or_true]
        rw [h, Nat.zero_testBit] at this
        exact absurd this (by decide)
      · by_cases e : t = T
        · rw [e]; rename_i z; exact Bool.eq_false_iff.mpr z
        · exact ih.mp h t (by omega)
    · intro h
      rw [h T (by omega)]
      exact ih.mpr (fun t ht => h t (by omega))
def same (g : Nat → Nat) (n t i : Nat) : Prop := ∀ c, c < n → g (t * n + c) = g (i * n + c)
def sameL (g : Nat → Nat) (lc : Nat → Nat) (n i : Nat) : Prop := ∀ c, c < n → lc c = g (i * n + c)
def stP (op : Nat → Nat → Bool) (ms lc : Nat → Nat) (hl : Prop) (lo n d sp : Nat) (g : Nat → Nat) (p : Nat) : Prop :=
  (0 < p % n → near sp (g p) (g (p - 1))) ∧ (∀ j, j < d → op (key lo (p / n)) j = true → popc 31 (mk op lo n g j (p % n) (p / n + 1)) ≤ ms j) ∧ (p % n + 1 = n → (∀ t, t < p / n → ¬ same g n t (p / n)) ∧ (hl → ¬ sameL g lc n (p / n)))
def gk (g lc : Nat → Nat) (lo n y c : Nat) : Nat := if y = lo then lc c else g ((if y < lo then y else y - 1) * n + c)
def Mk (op : Nat → Nat → Bool) (hh : Nat → Nat → Nat) (lo n T : Nat) (g : Nat → Nat) (j c : Nat) : Nat := if mk op lo n g j c T = 0 then hh j c else mk op lo n g j c T
def barP (op : Nat → Nat → Bool) (hh : Nat → Nat → Nat) (bl : Nat → Bool) (lc : Nat → Nat) (lo n T : Nat) (g : Nat → Nat) (y j : Nat) : Prop := bl j = true ∨ ∃ c, c < n ∧ Mk op hh lo n T g j c ≠ 0 ∧ (Mk op hh lo n T g j c).testBit (gk g lc lo n y c) = false
def nmP (op nv : Nat → Nat → Bool) (hh : Nat → Nat → Nat) (bl : Nat → Bool) (lc : Nat → Nat) (lo n T k d : Nat) (g : Nat → Nat) : Prop := ∀ y, y < k → ∀ j, j < d → nv y j = true → barP op hh bl lc lo n T g y j
/-- what stays of a place that stood -/
def QP (op : Nat → Nat → Bool) (ms : Nat → Nat) (lo n d : Nat) (g : Nat → Nat) (q : Nat) : Prop := g q ≤ 9 ∧ ∀ j, j < d → op (key lo (q / n)) j = true → popc 31 (mk op lo n g j (q % n) (q / n + 1)) ≤ ms j
theorem QP_congr {op : Nat → Nat → Bool} {ms : Nat → Nat} {lo n d : Nat} (hn : 0 < n) : ∀ g g' q, (∀ x, x ≤ q → g x = g' x) → QP op ms lo n d g q → QP op ms lo n d g' q := by
  intro g g' q h ⟨h1, h2⟩
  refine ⟨by rw [← h q (Nat.le_refl _)]; exact h1, fun j hj ho => ?_⟩
  have := h2 j hj ho
  rw [mk_congr (g' := g') (q / n + 1) (fun t' ht' => h _ ?_)] at this
  · exact this
  · have m := Nat.mod_lt q hn
    by_cases e : t' = q / n
    · rw [e, ← dm_e n q]; exact Nat.le_refl _
    · have := dm_le (p := q) m (t := t') (by omega); omega
theorem QP_st {op : Nat → Nat → Bool} {ms lc : Nat → Nat} {hl : Prop} {lo n d sp : Nat} : ∀ g q, stP op ms lc hl lo n d sp g q → g q ≤ 9 → QP op ms lo n d g q := fun g q h h9 => ⟨h9, h.2.1⟩
theorem QP_ms {op : Nat → Nat → Bool} {ms : Nat → Nat} {lo n d T : Nat} {g : Nat → Nat} (h : ∀ q, q < T * n → QP op ms lo n d g q) {j c : Nat} (hj : j < d) (hc : c < n) : ∀ t, t ≤ T → popc 31 (mk op lo n g j c t) ≤ ms j
  | 0, _ => by
    show popc 31 0 ≤ _
    rw [show popc 31 0 = 0 by decide]
    exact Nat.zero_le _
  | t + 1, ht => by
    by_cases o : op (key lo t) j = true
    · have := (h (t * n + c) (dm_lt hc (by omega))).2 j hj
      rw [(dm_of hc).1, (dm_of hc).2] at this
      exact this o
    · show popc 31 (if op (key lo t) j then _ else _) ≤ _
      rw [if_neg o]
      exact QP_ms h hj hc t (by omega)
