/-! ===== carry: sets of keys as rows of bits ===== -/
def sub (x y : Nat) : Prop := ∀ i, x.testBit i = true → y.testBit i = true
def orS (R : Nat → Nat) : Nat → Nat → Nat
  | 0, _ => 0
  | k + 1, S => orS R k S ||| (if S.testBit k then R k else 0)
def bB (R : Nat → Nat) : Nat → Nat
  | 0 => 0
  | k + 1 => bB R k ||| R k
theorem orS_tb (R : Nat → Nat) (S i : Nat) : ∀ n, (orS R n S).testBit i = true ↔ ∃ k, k < n ∧ S.testBit k = true ∧ (R k).testBit i = true
  | 0 => by
    unfold orS
    rw [Nat.zero_testBit]
    exact ⟨fun y => absurd y (by decide), fun ⟨k, hk, _⟩ => absurd hk (by omega)⟩
  | n + 1 => by
    unfold orS
    rw [Nat.testBit_or, Bool.or_eq_true, orS_tb R S i n]
    constructor
    · rintro (⟨k, h1, h2, h3⟩ | y)
      · exact ⟨k, by omega, h2, h3⟩
      · split at y
        · exact ⟨n, by omega, by assumption, y⟩
        · rw [Nat.zero_testBit] at y; exact absurd y (by decide)
    · rintro ⟨k, h1, h2, h3⟩
      by_cases e : k = n
      · subst e
        right
        rw [h2, if_pos rfl]; exact h3
      · exact Or.inl ⟨k, by omega, h2, h3⟩
theorem bB_tb (R : Nat → Nat) (i : Nat) : ∀ n, (bB R n).testBit i = true ↔ ∃ k, k < n ∧ (R k).testBit i = true
  | 0 => by
    unfold bB
    rw [Nat.zero_testBit]
    exact ⟨fun y => absurd y (by decide), fun ⟨k, hk, _⟩ => absurd hk (by omega)⟩
  | n + 1 => by
    unfold bB
    rw [Nat.testBit_or, Bool.or_eq_true, bB_tb R i n]
    constructor
    · rintro (⟨k, h1, h3⟩ | y)
      · exact ⟨k, by omega, h3⟩
      · exact ⟨n, by omega, y⟩
    · rintro ⟨k, h1, h3⟩
      by_cases e : k = n
      · subst e
        exact Or.inr h3
      · exact Or.inl ⟨k, by omega, h3⟩
theorem tb_eq {x y : Nat} (h : ∀ i, x.testBit i = true ↔ y.testBit i = true) : x = y := by
  apply Nat.eq_of_testBit_eq
  intro i
  have := h i
  cases hx : x.testBit i <;> cases hy : y.testBit i <;> simp_all
theorem orS_lt {R : Nat → Nat} {m : Nat} (h : ∀ k, R k < 2 ^ m) (n S : Nat) : orS R n S < 2 ^ m := by
  refine Nat.lt_pow_two_of_testBit _ (fun i hi => ?_)
  cases z : (orS R n S).testBit i with
  | false => rfl
  | true =>
    obtain ⟨k, -, -, h3⟩ := (orS_tb R S i n).mp z
    rw [Nat.testBit_lt_two_pow (Nat.lt_of_lt_of_le (h k) (Nat.pow_le_pow_right (by decide) hi))] at h3
    exact h3.symm
theorem bB_lt {R : Nat → Nat} {m : Nat} (h : ∀ k, R k < 2 ^ m) (n : Nat) : bB R n < 2 ^ m := by
  refine Nat.lt_pow_two_of_testBit _ (fun i hi => ?_)
  cases z : (bB R n).testBit i with
  | false => rfl
  | true =>
    obtain ⟨k, -, h3⟩ := (bB_tb R i n).mp z
    rw [Nat.testBit_lt_two_pow (Nat.lt_of_lt_of_le (h k) (Nat.pow_le_pow_right (by decide) hi))] at h3
    exact h3.symm
theorem b_sub {x y : Nat} (hx : x < 2 ^ 31) : (nI x &&& (nI y ^^^ (-1 : Int32)) = 0) ↔ sub x y := by
  have tb : ∀ z i : Nat, i < 32 → (nI z).toBitVec.getLsbD i = z.testBit i := by
    intro z i hi
    show (BitVec.ofNat 32 z).getLsbD i = _
    rw [BitVec.getLsbD_ofNat]
    simp [hi]
  have e1 : (-1 : Int32).toBitVec = BitVec.allOnes 32 := by decide
  constructor
  · intro h i hi
    have i32 : i < 32 := by
      rcases Nat.lt_or_ge i 32 with y | y
      · exact y
      · rw [Nat.testBit_lt_two_pow (Nat.lt_of_lt_of_le hx (Nat.pow_le_pow_right (by decide) (by omega)))] at hi
        exact absurd hi (by decide)
    have h2 := congrArg (fun v : Int32 => v.toBitVec.getLsbD i) h
    simp only [Int32.toBitVec_and, Int32.toBitVec_xor, e1, BitVec.getLsbD_and, BitVec.getLsbD_xor, BitVec.getLsbD_allOnes, i32, decide_true, tb _ _ i32, hi] at h2
    have z : (0 : Int32).toBitVec.getLsbD i = false := by
      show (BitVec.ofNat 32 0).getLsbD i = false
      simp
    rw [z] at h2
    cases q : y.testBit i with
    | true => rfl
    | false => rw [q] at h2; exact absurd h2 (by decide)
  · intro h
    apply Int32.toBitVec_inj.mp
    rw [Int32.toBitVec_and, Int32.toBitVec_xor, e1]
    apply BitVec.eq_of_getLsbD_eq
    intro i i32
    simp only [BitVec.getLsbD_and, BitVec.getLsbD_xor, BitVec.getLsbD_allOnes, i32, decide_true, tb _ _ i32]
    have z : (0 : Int32).toBitVec.getLsbD i = false := by
      show (BitVec.ofNat 32 0).getLsbD i = false
      simp
    rw [z]
    cases q : x.testBit i with
    | false => rfl
    | true => rw [h i q]; rfl
theorem popc_mono {x y : Nat} (h : sub x y) : ∀ k, popc k x ≤ popc k y
  | 0 => Nat.le_refl 0
  | k + 1 => by
    rw [popc_tb, popc_tb]
    have := popc_mono h k
    have h2 := h k
    cases hx : x.testBit k with
    | false => simp; omega
    | true => rw [h2 hx]; omega
/-! the sets that begin as c does above bit u -/
theorem rng_tb {c u S : Nat} (h : S / 2 ^ u = c) (i : Nat) : S.testBit (i + u) = c.testBit i := by rw [← Nat.testBit_div_two_pow, h]
theorem rng_sub {c u S : Nat} (h : S / 2 ^ u = c) : sub (c * 2 ^ u) S := by
  intro i hi
  rw [Nat.testBit_mul_two_pow, Bool.and_eq_true, decide_eq_true_eq] at hi
  have := rng_tb h (i - u)
  rw [show i - u + u = i by omega] at this
  rw [this]; exact hi.2
theorem rng_iff {c u S : Nat} : S / 2 ^ u = c ↔ c * 2 ^ u ≤ S ∧ S < c * 2 ^ u + 2 ^ u := by
  have hp : 0 < 2 ^ u := Nat.two_pow_pos u
  rw [Nat.div_eq_iff hp]
  constructor
  · rintro ⟨a, b⟩; omega
  · rintro ⟨a, b⟩; omega
def cov (R : Nat → Nat) (W S : Nat) : Prop := sub W (orS R 14 S)
theorem cov_no {R : Nat → Nat} {W c u S : Nat} (h : ¬ sub W (orS R 14 (c * 2 ^ u) ||| bB R u)) (hS : S / 2 ^ u = c) : ¬ cov R W S := by
  intro hc
  apply h
  intro i hi
  have := hc i hi
  rw [orS_tb] at this
  obtain ⟨k, k1, k2, k3⟩ := this
  rw [Nat.testBit_or, Bool.or_eq_true, orS_tb, bB_tb]
  by_cases e : k < u
  · exact Or.inr ⟨k, e, k3⟩
  · refine Or.inl ⟨k, k1, ?_, k3⟩
    rw [Nat.testBit_mul_two_pow, Bool.and_eq_true, decide_eq_true_eq]
    refine ⟨by omega, ?_⟩
    have := rng_tb hS (k - u)
    rw [show k - u + u = k by omega] at this
    rw [← this]; exact k2
theorem or_bit (c v : Nat) : (2 * c) * 2 ^ v ||| 2 ^ v = (2 * c + 1) * 2 ^ v := by
  have := Nat.two_pow_add_eq_or_of_lt (i := v + 1) (b := 2 ^ v) (Nat.pow_lt_pow_right (by decide) (by omega)) c
  rw [Nat.pow_succ] at this
  rw [show 2 * c * 2 ^ v = 2 ^ v * 2 * c by rw [Nat.mul_comm 2 c, Nat.mul_assoc, Nat.mul_comm c, Nat.mul_comm 2], ← this, Nat.add_mul, Nat.one_mul, show 2 * c * 2 ^ v = 2 ^ v * 2 * c by rw [Nat.mul_comm 2 c, Nat.mul_assoc, Nat.mul_comm c, Nat.mul_comm 2]]
theorem orS_bit (R : Nat → Nat) (x v : Nat) (hv : v < 14) : orS R 14 (x ||| 2 ^ v) = orS R 14 x ||| R v := by
  apply tb_eq
  intro i
  rw [Nat.testBit_or, Bool.or_eq_true, orS_tb, orS_tb]
  constructor
  · rintro ⟨k, k1, k2, k3⟩
    rw [Nat.testBit_or, Bool.or_eq_true, Nat.testBit_two_pow, decide_eq_true_eq] at k2
    rcases k2 with k2 | rfl
    · exact Or.inl ⟨k, k1, k2, k3⟩
    · exact Or.inr k3
  · rintro (⟨k, k1, k2, k3⟩ | y)
    · exact ⟨k, k1, by rw [Nat.testBit_or, k2]; rfl, k3⟩
    · exact ⟨v, hv, by rw [Nat.testBit_or, Nat.testBit_two_pow_self, Bool.or_true], y⟩
/-! the least of the fewest, among the sets below x -/
def MinC (R : Nat → Nat) (W x b f : Nat) : Prop := (f = 15 ∧ ∀ S, S < x → ¬ cov R W S) ∨ (b < x ∧ cov R W b ∧ f = popc 31 b ∧ ∀ S, S < x → cov R W S → f < popc 31 S ∨ (f = popc 31 S ∧ b ≤ S))
theorem popc_le14 {x : Nat} (h : x < 2 ^ 14) : popc 31 x ≤ 14 := by
  rw [popc_0 (m := x) 14 17 h]
  have : ∀ k, popc k x ≤ k := by
    intro k
    induction k with
    | zero => exact Nat.le_refl 0
    | succ k ih =>
      rw [popc_tb]
      have : (x.testBit k).toNat ≤ 1 := by cases x.testBit k <;> decide
      omega
  exact this 14
theorem MinC.skip {R : Nat → Nat} {W x y b f : Nat} (h : MinC R W x b f) (hxy : x ≤ y) (hn : ∀ S, x ≤ S → S < y → cov R W S → f ≤ popc 31 S ∧ popc 31 S ≤ 14) : MinC R W y b f := by
  rcases h with ⟨h1, h2⟩ | ⟨h1, h2, h3, h4⟩
  · refine Or.inl ⟨h1, fun S hS hc => ?_⟩
    rcases Nat.lt_or_ge S x with q | q
    · exact h2 S q hc
    · have := hn S q hS hc; omega
  · refine Or.inr ⟨by omega, h2, h3, fun S hS hc => ?_⟩
    rcases Nat.lt_or_ge S x with q | q
    · exact h4 S q hc
    · have := hn S q hS hc
      omega
theorem MinC.take {R : Nat → Nat} {W x y b f : Nat} (h : MinC R W x b f) (hxy : x < y) (hc : cov R W x) (hf : popc 31 x < f) (hn : ∀ S, x ≤ S → S < y → popc 31 x ≤ popc 31 S) : MinC R W y x (popc 31 x) := by
  refine Or.inr ⟨hxy, hc, rfl, fun S hS hcS => ?_⟩
  rcases Nat.lt_or_ge S x with q | q
  · left
    rcases h with ⟨h1, h2⟩ | ⟨h1, h2, h3, h4⟩
    · exact absurd hcS (h2 S q)
    · have := h4 S q hcS; omega
  · have := hn S q hS; omega
/-! the class chooses -/
def XS (τ0 τ : kT) (W b f : Nat) : Prop := (∀ x, x ≠ 63 → q_i τ x = q_i τ0 x) ∧ (∀ x, q_l τ x = q_l τ0 x) ∧ q_i τ 63 3 = nI W ∧ q_i τ 63 4 = nI b ∧ q_i τ 63 5 = nI f
theorem c_choose {τ0 : kT} {R : Nat → Nat} {W n : Nat} (hR : ∀ k, R k < 2 ^ 31) (hW : W < 2 ^ 31) (hn : n ≤ 14) (h64 : ∀ k, k < n → q_i τ0 64 k = nI (R k)) (h65 : ∀ k, k ≤ n → q_i τ0 65 k = nI (bB R k)) : ∀ (u : Nat) (e c : Nat) (τ : kT) (b f : Nat) (post : kT → Prop), u ≤ n → c * 2 ^ u + 2 ^ u ≤ 2 ^ 14 → f ≤ 15 → XS τ0 τ W b f → MinC R W (c * 2 ^ u) b f → (∀ τ2 b2 f2, f2 ≤ 15 → XS τ0 τ2 W b2 f2 → MinC R W (c * 2 ^ u + 2 ^ u) b2 f2 → post τ2) → T_X1_choose (u + 1 + e) (nI u) (nI (c * 2 ^ u)) (nI (orS R 14 (c * 2 ^ u))) τ post := by
  intro u
  induction u with
  | zero =>
    intro e c τ b f post hu hc hf hX hM hp
    obtain ⟨x1, x2, x3, x4, x5⟩ := hX
    have hlt : c * 2 ^ 0 < 2 ^ 14 := by omega
    have p14 := popc_le14 hlt
    rw [show 0 + 1 + e = e + 1 by omega]
    unfold T_X1_choose
    refine s_bitCount (by omega) ?_
    rw [x5, x3]
    by_cases q : popc 31 (c * 2 ^ 0) < f
    · refine br_t (nI_lt q (by omega)) ?_
      by_cases q2 : sub W (orS R 14 (c * 2 ^ 0))
      · refine bn_f ((b_sub hW).mpr q2) (fun τ23 h23 => s_bitCount (by omega) (fun τ26 h26 => ?_))
        refine hp τ26 (c * 2 ^ 0) (popc 31 (c * 2 ^ 0)) (by omega) ⟨fun x n1 => ?_, fun x => ?_, ?_, ?_, ?_⟩ (hM.take (by omega) q2 q (fun S h1 h2 => ?_))
        · rw [h26, q_i_si, if_neg n1, h23, q_i_si, if_neg n1]; exact x1 x n1
        · rw [h26, h23]; exact x2 x
        · rw [h26, h23]; exact x3
        · rw [h26, h23]; rfl
        · rw [h26]; rfl
        · have : S = c * 2 ^ 0 := by omega
          rw [this]; exact Nat.le_refl _
      · have skip : post τ := hp τ b f hf ⟨x1, x2, x3, x4, x5⟩ (hM.skip (by omega) (fun S h1 h2 hcS => by
          have : S = c * 2 ^ 0 := by omega
          rw [this] at hcS
          exact absurd hcS q2))
        refine bn_t (fun y => q2 ((b_sub hW).mp y)) ⟨0, rfl, by omega, ?_⟩
        exact ⟨fun _ => bn_f rfl (br_f (by decide) skip), fun _ => bn_t (by decide) skip⟩
    · refine br_f (fun y => q ((nI_ltI (by omega) (by omega)).mp y)) (hp τ b f hf ⟨x1, x2, x3, x4, x5⟩ (hM.skip (by omega) (fun S h1 h2 hcS => ?_)))
      have : S = c * 2 ^ 0 := by omega
      rw [this]; omega
  | succ u ih =>
    intro e c τ b f post hu hc hf hX hM hp
    obtain ⟨x1, x2, x3, x4, x5⟩ := id hX
    have h2u : 2 ^ (u + 1) = 2 * 2 ^ u := by rw [Nat.pow_succ, Nat.mul_comm]
    have hpos : 0 < 2 ^ u := Nat.two_pow_pos u
    have hlt : c * 2 ^ (u + 1) < 2 ^ 14 := by omega
    have p14 := popc_le14 hlt
    have ge : ∀ S, c * 2 ^ (u + 1) ≤ S → S < c * 2 ^ (u + 1) + 2 ^ (u + 1) → popc 31 (c * 2 ^ (u + 1)) ≤ popc 31 S ∧ popc 31 S ≤ 14 := fun S h1 h2 => ⟨popc_mono (rng_sub (rng_iff.mpr ⟨h1, h2⟩)) 31, popc_le14 (by omega)⟩
    rw [show u + 1 + 1 + e = (u + 1 + e) + 1 by omega]
    unfold T_X1_choose
    refine s_bitCount (by omega) ?_
    rw [x5, x3]
    by_cases q : popc 31 (c * 2 ^ (u + 1)) < f
    · refine br_t (nI_lt q (by omega)) ?_
      by_cases q2 : sub W (orS R 14 (c * 2 ^ (u + 1)))
      · refine bn_f ((b_sub hW).mpr q2) (fun τ23 h23 => s_bitCount (by omega) (fun τ26 h26 => ?_))
        refine hp τ26 (c * 2 ^ (u + 1)) (popc 31 (c * 2 ^ (u + 1))) (by omega) ⟨fun x n1 => ?_, fun x => ?_, ?_, ?_, ?_⟩ (hM.take (by omega) q2 q (fun S h1 h2 => (ge S h1 h2).1))
        · rw [h26, q_i_si, if_neg n1, h23, q_i_si, if_neg n1]; exact x1 x n1
        · rw [h26, h23]; exact x2 x
        · rw [h26, h23]; exact x3
        · rw [h26, h23]; rfl
        · rw [h26]; rfl
      · refine bn_t (fun y => q2 ((b_sub hW).mp y)) ⟨u + 1, rfl, by omega, ?_⟩
        rw [x1 65 (by decide), h65 (u + 1) hu, b_or]
        by_cases q3 : sub W (orS R 14 (c * 2 ^ (u + 1)) ||| bB R (u + 1))
        · refine br_t ((b_sub hW).mpr q3) (bn_f rfl (br_t (by show (0 : Int32) < nI (u + 1); exact nI_lt (a := 0) (by omega) (by omega)) (fun v9 h9 => ?_)))
          have h9 : v9 = nI u := by rw [h9, i_eq, i_m1 (by omega), nI_toInt (by omega)]; omega
          subst h9
          have ec : c * 2 ^ (u + 1) = (2 * c) * 2 ^ u := by rw [h2u, Nat.mul_comm 2 c, Nat.mul_assoc]
          have eo : nI ((2 * c) * 2 ^ u) ||| ((1 : Int32) <<< (nI u &&& 31)) = nI ((2 * c + 1) * 2 ^ u) := by rw [b_sh1 u (by omega), b_or, or_bit]
          have es : (2 * c + 1) * 2 ^ u = (2 * c) * 2 ^ u + 2 ^ u := by rw [Nat.add_mul, Nat.one_mul]
          rw [ec] at hM hp hc ⊢
          refine ih e (2 * c) τ b f _ (by omega) (by omega) hf hX hM (fun τ2 b2 f2 hf2 hX2 hM2 => ⟨u, rfl, by omega, ?_⟩)
          rw [eo, hX2.1 64 (by decide), h64 u (by omega), b_or, ← orS_bit R _ u (by omega), or_bit]
          refine ih e (2 * c + 1) τ2 b2 f2 _ (by omega) (by omega) hf2 hX2 (by rw [es]; exact hM2) (fun τ3 b3 f3 hf3 hX3 hM3 => hp τ3 b3 f3 hf3 hX3 ?_)
          rw [es, Nat.add_assoc, show 2 ^ u + 2 ^ u = 2 ^ (u + 1) by omega] at hM3
          exact hM3
        · refine br_f (fun y => q3 ((b_sub hW).mp y)) (bn_t (by decide) (hp τ b f hf hX (hM.skip (by omega) (fun S h1 h2 hcS => ?_))))
          exact absurd hcS (cov_no q3 (rng_iff.mpr ⟨h1, h2⟩))
    · refine br_f (fun y => q ((nI_ltI (by omega) (by omega)).mp y)) (hp τ b f hf hX (hM.skip (by omega) (fun S h1 h2 hcS => ?_)))
      have := ge S h1 h2
      omega
