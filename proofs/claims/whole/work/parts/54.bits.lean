/-! ===== bits of a number ===== -/
theorem b_31 : ∀ k : Nat, k < 32 → nI k &&& 31 = nI k := by decide
theorem b_and (a b : Nat) : nI a &&& nI b = nI (a &&& b) := by
  unfold nI
  apply Int32.toBitVec_inj.mp
  rw [Int32.toBitVec_and]
  apply BitVec.eq_of_getLsbD_eq
  intro i hi
  simp [Int32.toBitVec_ofNat', BitVec.getLsbD_ofNat, hi, Nat.testBit_and]
theorem b_or (a b : Nat) : nI a ||| nI b = nI (a ||| b) := by
  unfold nI
  apply Int32.toBitVec_inj.mp
  rw [Int32.toBitVec_or]
  apply BitVec.eq_of_getLsbD_eq
  intro i hi
  simp [Int32.toBitVec_ofNat', BitVec.getLsbD_ofNat, hi, Nat.testBit_or]
theorem b_sh1 : ∀ k : Nat, k < 32 → (1 : Int32) <<< (nI k &&& 31) = nI (2 ^ k) := by decide
theorem b_shr {m k : Nat} (hm : m < 2 ^ 31) (hk : k < 32) : nI m >>> (nI k &&& 31) = nI (m / 2 ^ k) := by
  rw [b_31 k hk]
  apply Int32.toBitVec_inj.mp
  have h1 : (nI k).toBitVec.smod 32 = BitVec.ofNat 32 k := by
    revert k; decide
  show BitVec.sshiftRight' (nI m).toBitVec ((nI k).toBitVec.smod 32) = _
  rw [h1]
  have h2 : (nI m).toBitVec = BitVec.ofNat 32 m := rfl
  have h3 : (nI (m / 2 ^ k)).toBitVec = BitVec.ofNat 32 (m / 2 ^ k) := rfl
  rw [h2, h3]
  show (BitVec.ofNat 32 m).sshiftRight (BitVec.ofNat 32 k).toNat = _
  apply BitVec.eq_of_getLsbD_eq
  intro i hi
  rw [BitVec.getLsbD_sshiftRight, BitVec.getLsbD_ofNat, BitVec.getLsbD_ofNat, BitVec.toNat_ofNat, Nat.mod_eq_of_lt (by omega)]
  have hms : (BitVec.ofNat 32 m).msb = false := by
    rw [BitVec.msb_eq_decide, BitVec.toNat_ofNat]
    simp; omega
  rw [hms, ← Nat.shiftRight_eq_div_pow, Nat.testBit_shiftRight]
  have : 32 ≤ k + i → m.testBit (k + i) = false := fun h => Nat.testBit_lt_two_pow (by exact Nat.lt_of_lt_of_le hm (Nat.pow_le_pow_right (by decide) (by omega)))
  by_cases h : k + i < 32
  · simp [h, hi]
  · simp [h, hi, this (by omega)]
theorem b_bit (m k : Nat) : (m / 2 ^ k) &&& 1 = (m.testBit k).toNat := by
  rw [Nat.and_one_is_mod, Nat.testBit_eq_decide_div_mod_eq]
  by_cases h : m / 2 ^ k % 2 = 1
  · simp [h]
  · simp [h]; omega
theorem b_tst {m k : Nat} (hm : m < 2 ^ 31) (hk : k < 31) : (nI m &&& ((1 : Int32) <<< (nI k &&& 31)) = 0) ↔ m.testBit k = false := by
  rw [b_sh1 k (by omega), b_and]
  have h1 : m &&& 2 ^ k < 2 ^ 31 := Nat.lt_of_le_of_lt Nat.and_le_left hm
  constructor
  · intro h
    have h : nI (m &&& 2 ^ k) = nI 0 := h
    have h2 : m &&& 2 ^ k = 0 := by
      have := congrArg (fun x => x.toBitVec.toNat) h
      have e : ∀ n, (nI n).toBitVec.toNat = n % 2 ^ 32 := fun _ => rfl
      simp only [e] at this
      omega
    have h3 : (m &&& 2 ^ k).testBit k = false := by rw [h2]; simp
    rw [Nat.testBit_and] at h3
    simpa [Nat.testBit_two_pow_self] using h3
  · intro h
    have : m &&& 2 ^ k = 0 := by
      apply Nat.eq_of_testBit_eq
      intro i
      rw [Nat.testBit_and, Nat.testBit_two_pow]
      by_cases e : k = i
      · subst e; simp [h]
      · simp [e]
    rw [this]; rfl
def clr (m k : Nat) : Nat := m ^^^ (m &&& 2 ^ k)
theorem b_clr {m k : Nat} (hm : m < 2 ^ 31) (hk : k < 31) : nI m &&& (((1 : Int32) <<< (nI k &&& 31)) ^^^ (-1 : Int32)) = nI (clr m k) := by
  rw [b_sh1 k (by omega)]
  apply Int32.toBitVec_inj.mp
  rw [Int32.toBitVec_and, Int32.toBitVec_xor]
  apply BitVec.eq_of_getLsbD_eq
  intro i hi
  have e1 : (-1 : Int32).toBitVec = BitVec.allOnes 32 := by decide
  have h2 : ∀ m, (nI m).toBitVec = BitVec.ofNat 32 m := fun _ => rfl
  rw [e1, h2, h2, h2]
  unfold clr
  rw [BitVec.getLsbD_and, BitVec.getLsbD_xor, BitVec.getLsbD_allOnes, BitVec.getLsbD_ofNat, BitVec.getLsbD_ofNat, BitVec.getLsbD_ofNat, Nat.testBit_xor, Nat.testBit_and]
  simp only [hi, decide_true, Bool.true_and]
  cases m.testBit i <;> cases (2 ^ k).testBit i <;> rfl
theorem clr_tb (m k j : Nat) : (clr m k).testBit j = (m.testBit j && decide (k ≠ j)) := by
  unfold clr
  rw [Nat.testBit_xor, Nat.testBit_and, Nat.testBit_two_pow]
  by_cases e : k = j
  · subst e; cases m.testBit k <;> simp
  · simp [e]
theorem set_tb (m k j : Nat) : (m ||| 2 ^ k).testBit j = (m.testBit j || decide (k = j)) := by
  rw [Nat.testBit_or, Nat.testBit_two_pow]
theorem popc_0 {m : Nat} (a b : Nat) (h : m < 2 ^ a) : popc (a + b) m = popc a m := by
  induction b with
  | zero => rfl
  | succ b ih =>
    show popc (a + b) m + (m / 2 ^ (a + b)) % 2 = _
    rw [ih, Nat.div_eq_of_lt (Nat.lt_of_lt_of_le h (Nat.pow_le_pow_right (by decide) (by omega)))]
    rfl
theorem popc_tb (k m : Nat) : popc (k + 1) m = popc k m + (m.testBit k).toNat := by
  show popc k m + (m / 2 ^ k) % 2 = _
  rw [← b_bit, Nat.and_one_is_mod]
theorem popc_congr {m m2 : Nat} : ∀ k, (∀ j, j < k → m.testBit j = m2.testBit j) → popc k m = popc k m2
  | 0, _ => rfl
  | k + 1, h => by rw [popc_tb, popc_tb, popc_congr k (fun j hj => h j (by omega)), h k (by omega)]
theorem popc_set {m i : Nat} (hm : m.testBit i = false) : ∀ k, i < k → popc k (m ||| 2 ^ i) = popc k m + 1
  | 0, h => absurd h (by omega)
  | k + 1, h => by
    rw [popc_tb, popc_tb]
    by_cases e : i = k
    · subst e
      rw [popc_congr i (m2 := m) (fun j hj => by rw [set_tb]; simp; omega), set_tb, hm]
      simp
    · rw [popc_set hm k (by omega), set_tb]
      simp [e]; omega
theorem popc_set' {m i : Nat} (hm : m.testBit i = true) : m ||| 2 ^ i = m := by
  apply Nat.eq_of_testBit_eq
  intro j
  rw [set_tb]
  by_cases e : i = j
  · subst e; simp [hm]
  · simp [e]
theorem popc_clr_le (m i : Nat) : ∀ k, popc k (clr m i) ≤ popc k m
  | 0 => Nat.le_refl _
  | k + 1 => by
    rw [popc_tb, popc_tb, clr_tb]
    have := popc_clr_le m i k
    cases m.testBit k <;> cases decide (i ≠ k) <;> simp <;> omega
theorem lt_of_tb {m k : Nat} (h : ∀ j, k ≤ j → m.testBit j = false) : m < 2 ^ k := by
  apply Nat.lt_pow_two_of_testBit
  exact h
theorem set_lt {m i k : Nat} (h : m < 2 ^ k) (hi : i < k) : m ||| 2 ^ i < 2 ^ k := Nat.or_lt_two_pow h (Nat.pow_lt_pow_right (by decide) hi)
theorem clr_lt {m i k : Nat} (h : m < 2 ^ k) : clr m i < 2 ^ k := by
  apply lt_of_tb
  intro j hj
  rw [clr_tb, Nat.testBit_lt_two_pow (Nat.lt_of_lt_of_le h (Nat.pow_le_pow_right (by decide) hj))]
  rfl
def bcF (a1 : Int32) : Int32 :=
  let v1 := (a1 - ((a1.toUInt32 >>> ((1 : Int32).toUInt32 &&& Int32.toUInt32 31)).toInt32 &&& (1431655765 : Int32)))
  let v2 := ((v1 &&& (858993459 : Int32)) + ((v1.toUInt32 >>> ((2 : Int32).toUInt32 &&& Int32.toUInt32 31)).toInt32 &&& (858993459 : Int32)))
  let v3 := ((v2 + (v2.toUInt32 >>> ((4 : Int32).toUInt32 &&& Int32.toUInt32 31)).toInt32) &&& (252645135 : Int32))
  let v4 := (v3 + (v3.toUInt32 >>> ((8 : Int32).toUInt32 &&& Int32.toUInt32 31)).toInt32)
  let v5 := (v4 + (v4.toUInt32 >>> ((16 : Int32).toUInt32 &&& Int32.toUInt32 31)).toInt32)
  v5 &&& 63
set_option maxRecDepth 100000 in
theorem bcF_d : ∀ h : Nat, h < 16 → ∀ l : Nat, l < 1024 → bcF (nI (h * 1024 + l)) = nI (popc 14 (h * 1024 + l)) := by decide +kernel
theorem bcF_ok {m : Nat} (hm : m < 16384) : bcF (nI m) = nI (popc 31 m) := by
  have := bcF_d (m / 1024) (by omega) (m % 1024) (by omega)
  rw [show m / 1024 * 1024 + m % 1024 = m by omega] at this
  rw [this, ← popc_0 14 17 hm]
