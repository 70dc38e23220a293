/-! ===== carry: the reference ===== -/
theorem low_x {x l : Nat} (h1 : x.testBit l = true) (h2 : ∀ j, j < l → x.testBit j = false) : x = 2 ^ (l + 1) * (x / 2 ^ (l + 1)) + 2 ^ l := by
  have e : x % 2 ^ (l + 1) = 2 ^ l := by
    apply tb_eq
    intro i
    rw [Nat.testBit_mod_two_pow, Bool.and_eq_true, decide_eq_true_eq, Nat.testBit_two_pow, decide_eq_true_eq]
    constructor
    · rintro ⟨a, b⟩
      rcases Nat.lt_or_ge i l with q | q
      · rw [h2 i q] at b; exact absurd b (by decide)
      · omega
    · rintro rfl
      exact ⟨by omega, h1⟩
  have := Nat.div_add_mod x (2 ^ (l + 1))
  rw [e] at this
  exact this.symm
theorem low_clr {x l : Nat} (h1 : x.testBit l = true) (h2 : ∀ j, j < l → x.testBit j = false) : (x &&& (x - 1)) ||| 2 ^ l = x := by
  have ex := low_x h1 h2
  have hp : 0 < 2 ^ l := Nat.two_pow_pos l
  have e1 : x - 1 = 2 ^ (l + 1) * (x / 2 ^ (l + 1)) ||| (2 ^ l - 1) := by
    rw [← Nat.two_pow_add_eq_or_of_lt (i := l + 1) (b := 2 ^ l - 1) (by rw [Nat.pow_succ]; omega)]
    omega
  apply tb_eq
  intro i
  have t1 : (x - 1).testBit i = ((decide (l + 1 ≤ i) && (x / 2 ^ (l + 1)).testBit (i - (l + 1))) || decide (i < l)) := by
    rw [e1, Nat.testBit_or, Nat.mul_comm, Nat.testBit_mul_two_pow, Nat.testBit_two_pow_sub_one]
  rw [Nat.testBit_or, Nat.testBit_and, t1, Nat.testBit_two_pow, Bool.or_eq_true, Bool.and_eq_true, decide_eq_true_eq]
  constructor
  · rintro (⟨a, -⟩ | rfl)
    · exact a
    · exact h1
  · intro a
    by_cases e : l = i
    · exact Or.inr e
    · refine Or.inl ⟨a, ?_⟩
      rcases Nat.lt_or_ge i l with q | q
      · rw [h2 i q] at a; exact absurd a (by decide)
      · have : (x / 2 ^ (l + 1)).testBit (i - (l + 1)) = true := by
          rw [Nat.testBit_div_two_pow, show i - (l + 1) + (l + 1) = i by omega]; exact a
        rw [this, decide_eq_true (show l + 1 ≤ i by omega)]
        rfl
theorem popc_k {x : Nat} : ∀ k, popc k x ≤ k ∧ (popc k x = k → ∀ j, j < k → x.testBit j = true)
  | 0 => ⟨Nat.le_refl 0, fun _ j hj => absurd hj (by omega)⟩
  | k + 1 => by
    obtain ⟨a, b⟩ := popc_k (x := x) k
    rw [popc_tb]
    cases z : x.testBit k with
    | false =>
      refine ⟨by simp; omega, fun y => ?_⟩
      simp at y
      omega
    | true =>
      refine ⟨by simp; omega, fun y j hj => ?_⟩
      simp at y
      by_cases e : j = k
      · rw [e]; exact z
      · exact b y j (by omega)
theorem popc_all {x : Nat} : ∀ k, (∀ j, j < k → x.testBit j = true) → popc k x = k
  | 0, _ => rfl
  | k + 1, h => by rw [popc_tb, popc_all k (fun j hj => h j (by omega)), h k (by omega)]; rfl
theorem full_popc {n : Nat} (hn : n ≤ 14) : popc 31 (2 ^ n - 1) = n := by
  have hp : 0 < 2 ^ n := Nat.two_pow_pos n
  have := popc_0 (m := 2 ^ n - 1) n (31 - n) (by omega)
  rw [show n + (31 - n) = 31 by omega] at this
  rw [this]
  exact popc_all n (fun j hj => by rw [Nat.testBit_two_pow_sub_one]; exact decide_eq_true hj)
theorem full_only {n x : Nat} (hn : n ≤ 14) (hx : x < 2 ^ n) (h : n ≤ popc 31 x) : x = 2 ^ n - 1 := by
  have := popc_0 (m := x) n (31 - n) hx
  rw [show n + (31 - n) = 31 by omega] at this
  rw [this] at h
  obtain ⟨a, b⟩ := popc_k (x := x) n
  have b := b (by omega)
  apply tb_eq
  intro i
  rw [Nat.testBit_two_pow_sub_one, decide_eq_true_eq]
  constructor
  · intro y
    rcases Nat.lt_or_ge i n with q | q
    · exact q
    · rw [Nat.testBit_lt_two_pow (Nat.lt_of_lt_of_le hx (Nat.pow_le_pow_right (by decide) q))] at y
      exact absurd y (by decide)
  · exact b i
theorem cov_full {R : Nat → Nat} {D n : Nat} (hn : n ≤ 14) : cov R (D &&& bB R n) (2 ^ n - 1) := by
  intro i hi
  rw [Nat.testBit_and, Bool.and_eq_true, bB_tb] at hi
  obtain ⟨-, k, hk, h3⟩ := hi
  rw [orS_tb]
  exact ⟨k, by omega, by rw [Nat.testBit_two_pow_sub_one]; exact decide_eq_true hk, h3⟩
theorem cov_iff {R : Nat → Nat} {D n S : Nat} (hn : n ≤ 14) (hS : S < 2 ^ n) : orS (fun k => R k &&& D) 14 S = bB (fun k => R k &&& D) n ↔ cov R (D &&& bB R n) S := by
  constructor
  · intro h i hi
    rw [Nat.testBit_and, Bool.and_eq_true, bB_tb] at hi
    obtain ⟨d, k, hk, h3⟩ := hi
    have : (bB (fun k => R k &&& D) n).testBit i = true := (bB_tb _ i n).mpr ⟨k, hk, by rw [Nat.testBit_and, h3, d]; rfl⟩
    rw [← h, orS_tb] at this
    obtain ⟨k2, a1, a2, a3⟩ := this
    rw [Nat.testBit_and, Bool.and_eq_true] at a3
    exact (orS_tb R S i 14).mpr ⟨k2, a1, a2, a3.1⟩
  · intro h
    apply tb_eq
    intro i
    rw [orS_tb, bB_tb]
    constructor
    · rintro ⟨k, a1, a2, a3⟩
      refine ⟨k, ?_, a3⟩
      rcases Nat.lt_or_ge k n with q | q
      · exact q
      · rw [Nat.testBit_lt_two_pow (Nat.lt_of_lt_of_le hS (Nat.pow_le_pow_right (by decide) q))] at a2
        exact absurd a2 (by decide)
    · rintro ⟨k, a1, a3⟩
      rw [Nat.testBit_and, Bool.and_eq_true] at a3
      have := h i (by rw [Nat.testBit_and, a3.2, (bB_tb R i n).mpr ⟨k, a1, a3.1⟩]; rfl)
      rw [orS_tb] at this
      obtain ⟨k2, b1, b2, b3⟩ := this
      exact ⟨k2, b1, b2, by rw [Nat.testBit_and, b3, a3.2]; rfl⟩
def RM (R : Nat → Nat) (W n x b : Nat) : Prop := (b = 2 ^ n - 1 ∨ b < x) ∧ b < 2 ^ n ∧ cov R W b ∧ ∀ S, S < x → cov R W S → popc 31 b < popc 31 S ∨ (popc 31 b = popc 31 S ∧ b ≤ S)
theorem RM.take {R : Nat → Nat} {W n x b : Nat} (h : RM R W n x b) (hx : x < 2 ^ n) (hc : cov R W x) (hp : popc 31 x < popc 31 b) : RM R W n (x + 1) x := by
  refine ⟨Or.inr (by omega), hx, hc, fun S hS hcS => ?_⟩
  by_cases e : S = x
  · rw [e]; exact Or.inr ⟨rfl, Nat.le_refl _⟩
  · have := h.2.2.2 S (by omega) hcS
    omega
theorem RM.skip {R : Nat → Nat} {W n x b : Nat} (h : RM R W n x b) (hn : n ≤ 14) (hx : x < 2 ^ n) (hc : cov R W x → popc 31 b ≤ popc 31 x) : RM R W n (x + 1) b := by
  obtain ⟨h1, h2, h3, h4⟩ := h
  refine ⟨h1.imp id (fun y => by omega), h2, h3, fun S hS hcS => ?_⟩
  by_cases e : S = x
  · subst e
    have := hc hcS
    rcases Nat.lt_or_ge (popc 31 b) (popc 31 S) with q | q
    · exact Or.inl q
    · refine Or.inr ⟨by omega, ?_⟩
      rcases h1 with rfl | y
      · rw [full_popc hn] at this
        rw [full_only hn hx this]
        exact Nat.le_refl _
      · omega
  · exact h4 S (by omega) hcS
theorem RM.eq {R : Nat → Nat} {W n b b2 f : Nat} (hb : RM R W n (2 ^ n) b) (hc : MinC R W (2 ^ n) b2 f) : b2 = b := by
  obtain ⟨-, h2, h3, h4⟩ := hb
  rcases hc with ⟨-, y⟩ | ⟨y1, y2, y3, y4⟩
  · exact absurd h3 (y b h2)
  · have a := h4 b2 y1 y2
    have c := y4 b h2 h3
    omega
/-! the reference's loops -/
theorem r_low {a f2 f3 f4 : Int32} {x : Nat} {τ : kT} (hx : x < 2 ^ 14) {K : Int32 → kT → Prop} {post : Int32 → kT → Prop} (h0 : x = 0 → K 0 τ) (h : ∀ l, l < 14 → x.testBit l = true → (∀ j, j < l → x.testBit j = false) → K (nI l) τ) : ∃ m, L_X11_carry_74 a f2 f3 f4 (nI x) K post m 0 τ := by
  by_cases e0 : x = 0
  · refine ⟨1, ?_⟩
    unfold L_X11_carry_74
    exact br_t (by rw [e0]; decide) (h0 e0)
  · have key : ∀ m j, j + m = 14 → (∀ i, i < j → x.testBit i = false) → L_X11_carry_74 a f2 f3 f4 (nI x) K post (m + 1) (nI j) τ := by
      intro m
      induction m with
      | zero =>
        intro j hj hb
        have hj : j = 14 := by omega
        subst hj
        refine absurd ?_ e0
        apply tb_eq
        intro i
        rw [Nat.zero_testBit]
        rcases Nat.lt_or_ge i 14 with q | q
        · rw [hb i q]
        · rw [Nat.testBit_lt_two_pow (Nat.lt_of_lt_of_le hx (Nat.pow_le_pow_right (by decide) q))]
      | succ m ih =>
        intro j hj hb
        unfold L_X11_carry_74
        refine br_f (nI_ge (a := 0) (b := x) (by omega) (by omega)) ?_
        rw [b_shr (by omega) (by omega), show (1 : Int32) = nI 1 from rfl, b_and, b_bit]
        cases z : x.testBit j with
        | true => exact bn_t (by decide) (h j (by omega) z hb)
        | false =>
          refine bn_f rfl (fun v19 h19 => ?_)
          rw [h19, show nI j + nI 1 = nI (j + 1) from nI_add j 1]
          refine ih (j + 1) (by omega) (fun i hi => ?_)
          by_cases e : i = j
          · rw [e]; exact z
          · exact hb i (by omega)
    exact ⟨15, key 14 0 (by omega) (fun i hi => absurd hi (by omega))⟩
theorem r_63 {τ0 : kT} {a : Int32} {R : Nat → Nat} {D n : Nat} (hR : ∀ k, R k < 2 ^ 31) (hn : n ≤ 14) {K : Int32 → Int32 → kT → Prop} {post : Int32 → kT → Prop} (h : ∀ b v τ2, VT τ0 τ2 → RM R (D &&& bB R n) n (2 ^ n) b → K (nI b) v τ2) : ∀ m x b τ2, x + m = 2 ^ n → VT τ0 τ2 → (∀ j, j < n → q_i τ2 78 j = nI (R j &&& D)) → (∀ y, y < x → q_i τ2 79 y = nI (orS (fun k => R k &&& D) 14 y)) → RM R (D &&& bB R n) n x b → L_X11_carry_63 a (nI n) (nI (bB (fun k => R k &&& D) n)) K post (m + 1) (nI b) (nI x) τ2 := by
  have h2n : 2 ^ n ≤ 2 ^ 14 := Nat.pow_le_pow_right (by decide) hn
  have hQ : ∀ k, (fun k => R k &&& D) k < 2 ^ 31 := fun k => Nat.lt_of_le_of_lt Nat.and_le_left (hR k)
  intro m
  induction m with
  | zero =>
    intro x b τ2 hx h2 h78 h79 hM
    have hx : x = 2 ^ n := by omega
    subst hx
    unfold L_X11_carry_63
    refine br_t ?_ (h b _ τ2 h2 hM)
    rw [b_sh1 n (by omega)]
    exact nI_le (Nat.le_refl _) (by omega)
  | succ m ih =>
    intro x b τ2 hx h2 h78 h79 hM
    have hx2 : x < 2 ^ n := by omega
    have b14 := hM.2.1
    -- what follows the writing of together[x]
    have fin : ∀ τ3 : kT, τ3 = q_si τ2 79 x (nI (orS (fun k => R k &&& D) 14 x)) → (∃ j28 : Nat, nI x = nI j28 ∧ j28 < 16384 ∧ ((¬ (q_i τ3 79 j28) = nI (bB (fun k => R k &&& D) n) → (∀ v30 : Int32, v30 = nI x + (1 : Int32) → L_X11_carry_63 a (nI n) (nI (bB (fun k => R k &&& D) n)) K post (m + 1) (nI b) v30 τ3)) ∧ ((q_i τ3 79 j28) = nI (bB (fun k => R k &&& D) n) → (T_X11_bits (nI x) τ3 (fun r31 τ32 => (T_X11_bits (nI b) τ32 (fun r33 τ34 => ((r33 ≤ r31 → (∀ v36 : Int32, v36 = nI x + (1 : Int32) → L_X11_carry_63 a (nI n) (nI (bB (fun k => R k &&& D) n)) K post (m + 1) (nI b) v36 τ34)) ∧ (¬ r33 ≤ r31 → (∀ v37 : Int32, v37 = nI x + (1 : Int32) → L_X11_carry_63 a (nI n) (nI (bB (fun k => R k &&& D) n)) K post (m + 1) (nI x) v37 τ34)))))))))) := by
      intro τ3 h3
      have h3V : VT τ0 τ3 := ⟨fun y n1 n2 n3 => by rw [h3, q_i_si, if_neg n3]; exact h2.1 y n1 n2 n3, fun k hk => by rw [h3]; exact h2.2.1 k hk, fun y => by rw [h3]; exact h2.2.2 y⟩
      have h378 : ∀ j, j < n → q_i τ3 78 j = nI (R j &&& D) := fun j hj => by rw [h3]; exact h78 j hj
      have h379 : ∀ y, y < x + 1 → q_i τ3 79 y = nI (orS (fun k => R k &&& D) 14 y) := fun y hy => by
        rw [h3, q_i_si, if_pos rfl, upd_at]
        by_cases e : y = x
        · rw [if_pos e, e]
        · rw [if_neg e]; exact h79 y (by omega)
      have px := popc_le14 (x := x) (by omega)
      have pb := popc_le14 (x := b) (by omega)
      refine ⟨x, rfl, by omega, ?_⟩
      rw [h379 x (by omega)]
      refine ⟨fun q v30 h30 => ?_, fun q => s_bits (by omega) (s_bits (by omega) ⟨fun q2 v36 h36 => ?_, fun q2 v37 h37 => ?_⟩)⟩
      · rw [h30, show nI x + 1 = nI (x + 1) from nI_1 x]
        refine ih (x + 1) b τ3 (by omega) h3V h378 h379 (hM.skip hn hx2 (fun y => ?_))
        exact absurd (by rw [(cov_iff hn hx2).mpr y]) q
      · rw [h36, show nI x + 1 = nI (x + 1) from nI_1 x]
        exact ih (x + 1) b τ3 (by omega) h3V h378 h379 (hM.skip hn hx2 (fun y => (nI_leI (by omega) (by omega)).mp q2))
      · rw [h37, show nI x + 1 = nI (x + 1) from nI_1 x]
        have q : orS (fun k => R k &&& D) 14 x = bB (fun k => R k &&& D) n := (nI_eq (orS_lt hQ 14 x) (bB_lt hQ n)).mp q
        refine ih (x + 1) x τ3 (by omega) h3V h378 h379 (hM.take hx2 ((cov_iff hn hx2).mp q) ?_)
        rcases Nat.lt_or_ge (popc 31 x) (popc 31 b) with y | y
        · exact y
        · exact absurd (nI_le y (by omega)) q2
    unfold L_X11_carry_63
    refine br_f (by rw [b_sh1 n (by omega)]; exact nI_ge (by omega) (by omega)) (r_low (by omega) (fun e0 => ?_) (fun l hl l1 l2 => ?_))
    · refine bn_f (by rw [e0]; rfl) ⟨x, rfl, by omega, fun τ39 h39 => fin τ39 ?_⟩
      rw [h39, e0]
      congr 1
      have : orS (fun k => R k &&& D) 14 0 = 0 := by
        apply tb_eq
        intro i
        rw [orS_tb, Nat.zero_testBit]
        exact ⟨fun ⟨k, _, y, _⟩ => by rw [Nat.zero_testBit] at y; exact absurd y (by decide), fun y => absurd y (by decide)⟩
      rw [this]; rfl
    · have x0 : 0 < x := by
        rcases Nat.eq_zero_or_pos x with y | y
        · rw [y, Nat.zero_testBit] at l1; exact absurd l1 (by decide)
        · exact y
      have ln : l < n := by
        rcases Nat.lt_or_ge l n with q | q
        · exact q
        · rw [Nat.testBit_lt_two_pow (Nat.lt_of_lt_of_le hx2 (Nat.pow_le_pow_right (by decide) q))] at l1
          exact absurd l1 (by decide)
      have ex1 : nI x &&& (nI x - 1) = nI (x &&& (x - 1)) := by
        rw [show nI x - 1 = nI (x - 1) by rw [i_eq, i_m1 (by omega), nI_toInt (by omega)]; omega, b_and]
      have le1 : x &&& (x - 1) ≤ x - 1 := Nat.and_le_right
      refine bn_t (fun y => absurd ((nI_eq (b := 0) (by omega) (by decide)).mp y) (by omega)) ⟨x &&& (x - 1), ex1, by omega, l, rfl, hl, x, rfl, by omega, fun τ27 h27 => fin τ27 ?_⟩
      rw [h27, h79 _ (by omega), h78 l ln, b_or]
      congr 2
      have := orS_bit (fun k => R k &&& D) (x &&& (x - 1)) l hl
      rw [low_clr l1 l2] at this
      exact this.symm
/-! carry: both -/
def YS (τ τ2 : kT) (R : Nat → Nat) (k : Nat) : Prop := (∀ x, ¬ (42 ≤ x ∧ x < 45) → ¬ (63 ≤ x ∧ x < 66) → q_i τ2 x = q_i τ x) ∧ (∀ x, q_l τ2 x = q_l τ x) ∧ q_i τ2 63 2 = nI k ∧ (∀ j, j < k → q_i τ2 64 j = nI (R j)) ∧ (∀ j, j ≤ k → q_i τ2 65 j = nI (bB R j))
theorem J_car {τ τ2 : kT} (hJ : J τ) (g : ∀ x, ¬ (42 ≤ x ∧ x < 45) → ¬ (63 ≤ x ∧ x < 66) → q_i τ2 x = q_i τ x) (gl : ∀ x, q_l τ2 x = q_l τ x) (h65 : q_i τ2 65 0 = 0) : J τ2 := by
  obtain ⟨-, -, -, -, -, s, a7, a8, a9, -, z⟩ := id hJ
  have gg : ∀ x, x = 0 ∨ x = 39 ∨ x = 40 ∨ x = 41 ∨ x = 45 ∨ x = 66 ∨ x = 67 ∨ x = 68 ∨ x = 69 → q_i τ2 x = q_i τ x := fun x hx => g x (by omega) (by omega)
  exact hJ.keep ⟨fun x _ _ => g x (by omega) (by omega), fun x _ _ => gl x, gg 67 (by decide), gg 68 (by decide)⟩ ⟨by rw [gg 0 (by decide)], by rw [gg 66 (by decide)]⟩ (by rw [gg 0 (by decide), gg 66 (by decide)]; exact s) (by rw [gg 39 (by decide), gg 66 (by decide)]; exact a7) (by rw [gg 45 (by decide), gg 66 (by decide)]; exact a8) (by rw [gg 40 (by decide), gg 41 (by decide), gg 66 (by decide), gg 69 (by decide)]; exact a9) (by rw [h65, z])
theorem k_carry_op : K_carry J := by
  intro a τ hJ
  obtain ⟨nk, hnk, k1, k2, k3⟩ := hJ.nk
  obtain ⟨nd, hnd, d1, d2, d3⟩ := hJ.nd
  unfold T_X10_carry
  refine c_areDoors d1 (fun q => bn_t (by decide) (fun v4 h4 => ?_)) (fun q => bn_f rfl (by unfold T_X11_carry; exact r_areDoors d2 (fun z => absurd z q) (fun _ => bn_f rfl ⟨rfl, hJ⟩)))
  have hkN : kN (q_i τ 67) ≤ 14 ∧ kN (q_i τ 67) ≤ nk := by unfold kN; rw [k3]; split <;> omega
  have h4 : v4 = nI (kN (q_i τ 67)) := by
    rw [h4, k1, show (14 : Int32) = nI 14 from rfl, s_min (by omega) (by decide)]
    unfold kN
    rw [k3]
  rw [h4]
  generalize hkn : kN (q_i τ 67) = n at *
  obtain ⟨hn14, hnk2⟩ := hkN
  -- the doors as a number
  obtain ⟨D, hD, eD⟩ : ∃ D, D < 2 ^ 31 ∧ a = nI D := by
    have q0 := q.1
    rw [i_le] at q0
    have z0 : (0 : Int32).toInt = 0 := rfl
    have := a.toInt_lt
    refine ⟨a.toInt.toNat, by omega, ?_⟩
    rw [i_eq, nI_toInt (by omega)]
    omega
  subst eD
  obtain ⟨R, eR⟩ : ∃ R : Nat → Nat, R = fun k => opM (q_i τ 67) k (dN (q_i τ 67)) := ⟨_, rfl⟩
  have hR : ∀ k, R k < 2 ^ 31 := fun k => by
    rw [eR]
    refine Nat.lt_of_lt_of_le (opM_lt _ _ _) (Nat.pow_le_pow_right (by decide) ?_)
    unfold dN; split <;> omega
  have h2n : 2 ^ n ≤ 2 ^ 14 := Nat.pow_le_pow_right (by decide) hn14
  have hp2 : 0 < 2 ^ n := Nat.two_pow_pos n
  have z65 : q_i τ 65 0 = 0 := hJ.2.2.2.2.2.2.2.2.2.2
  have key : ∀ (P : Int32 → kT → Prop), (∀ τ2, YS τ τ2 R n → T_X1_fewest (nI D) τ2 (fun r16 τ17 => P r16 τ17)) → ∀ m k τ2, k + m = n → YS τ τ2 R k → L_X10_carry_36 (nI D) (nI n) (fun v14 τ15 => (T_X1_fewest (nI D) τ15 (fun r16 τ17 => P r16 τ17))) P (m + 1) (nI k) τ2 := by
    intro P hP m
    induction m with
    | zero =>
      intro k τ2 hk hY
      have hk : k = n := by omega
      subst hk
      unfold L_X10_carry_36
      exact br_t (nI_le (Nat.le_refl _) (by omega)) (hP τ2 hY)
    | succ m ih =>
      intro k τ2 hk hY
      obtain ⟨y1, y2, y3, y4, y5⟩ := hY
      have e67 : q_i τ2 67 = q_i τ 67 := y1 67 (by decide) (by decide)
      have hJ2 : J τ2 := J_car hJ y1 y2 (y5 0 (by omega))
      unfold L_X10_carry_36
      refine br_f (nI_ge (by omega) (by omega)) (c_doors hJ2 (by rw [e67, k3]; omega) (fun τ9 h9 => ?_))
      have e9 : q_i τ9 63 2 = nI k := by rw [h9.1 63 (by decide) (by decide) (by decide)]; exact y3
      have eRk : nI (opM (q_i τ2 67) k (dN (q_i τ2 67))) = nI (R k) := by rw [e67, eR]
      rw [eRk]
      unfold T_X1_addKey
      refine br_f (by rw [e9]; exact nI_ge (b := 14) (by omega) (by decide)) ⟨k, e9, by omega, fun τ3 h3 => ?_⟩
      have e3 : q_i τ3 63 2 = nI k := by rw [h3]; exact e9
      refine ⟨k, e3, by omega, k + 1, by rw [e3]; exact nI_1 k, by omega, fun τ6 h6 τ7 h7 v12 h12 => ?_⟩
      have e365 : q_i τ3 65 k = nI (bB R k) := by
        rw [h3]
        show q_i τ9 65 k = _
        rw [h9.1 65 (by decide) (by decide) (by decide)]; exact y5 k (by omega)
      rw [e365, b_or] at h6
      have e6 : q_i τ6 63 2 = nI k := by rw [h6]; exact e3
      rw [e6] at h7
      have h7 : τ7 = q_si τ6 63 2 (nI (k + 1)) := by rw [h7]; exact congrArg (q_si τ6 63 2) (nI_1 k)
      rw [h12, show nI k + 1 = nI (k + 1) from nI_1 k]
      refine ih (k + 1) τ7 (by omega) ⟨fun x n1 n2 => ?_, fun x => ?_, ?_, fun j hj => ?_, fun j hj => ?_⟩
      · rw [h7, q_i_si, if_neg (by omega), h6, q_i_si, if_neg (by omega), h3, q_i_si, if_neg (by omega), h9.1 x (by omega) (by omega) (by omega)]; exact y1 x n1 n2
      · rw [h7, h6, h3]; show q_l τ9 x = _; rw [h9.2 x]; exact y2 x
      · rw [h7]; rfl
      · rw [h7, h6, h3]
        show upd (q_i τ9 64) k (nI (R k)) j = _
        by_cases e : j = k
        · rw [e, upd_eq]
        · rw [upd_ne e, h9.1 64 (by decide) (by decide) (by decide)]; exact y4 j (by omega)
      · rw [h7, h6, h3]
        show upd (q_i τ9 65) (k + 1) (nI (bB R k ||| R k)) j = _
        by_cases e : j = k + 1
        · rw [e, upd_eq]; rfl
        · rw [upd_ne e, h9.1 65 (by decide) (by decide) (by decide)]; exact y5 j (by omega)
  intro τb hb
  refine ⟨n + 1, key (fun r1 τ1 => T_X11_carry (nI D) τ1 (fun r2 τ2 => r1 = r2 ∧ J τ2)) (fun τ2 hY => ?_) n 0 τb (by omega) ⟨fun x n1 n2 => ?_, fun x => ?_, ?_, fun j hj => absurd hj (by omega), fun j hj => ?_⟩⟩
  rotate_left
  · rw [hb, q_i_si, if_neg (by omega)]
  · rw [hb]; rfl
  · rw [hb]; rfl
  · rw [hb, show j = 0 by omega]; exact z65
  obtain ⟨y1, y2, y3, y4, y5⟩ := hY
  unfold T_X1_fewest
  refine ⟨n, y3, by omega, fun τ3 h3 τ4 h4' τ5 h5 => ?_⟩
  have W31 : D &&& bB R n < 2 ^ 31 := Nat.lt_of_le_of_lt Nat.and_le_left hD
  rw [y5 n (Nat.le_refl _), b_and] at h3
  have e52 : q_i τ5 63 2 = nI n := by rw [h5, h4', h3]; exact y3
  have hX : XS τ2 τ5 (D &&& bB R n) 0 15 := ⟨fun x n1 => by rw [h5, q_i_si, if_neg n1, h4', q_i_si, if_neg n1, h3, q_i_si, if_neg n1], fun x => by rw [h5, h4', h3]; rfl, by rw [h5, h4', h3]; rfl, by rw [h5, h4']; rfl, by rw [h5]; rfl⟩
  rw [e52]
  have go := c_choose (τ0 := τ2) hR W31 hn14 y4 y5 n (14 - n) 0 τ5 0 15 (fun τ6 => T_X11_carry (nI D) τ6 (fun r2 τ7 => q_i τ6 63 4 = r2 ∧ J τ7)) (Nat.le_refl _) (by omega) (by omega) hX (Or.inl ⟨rfl, fun S hS => absurd hS (by omega)⟩) (fun τ6 b f hf hX6 hM6 => ?_)
  · have e0 : orS R 14 0 = 0 := by
      apply tb_eq
      intro i
      rw [orS_tb, Nat.zero_testBit]
      exact ⟨fun ⟨k, _, y, _⟩ => by rw [Nat.zero_testBit] at y; exact absurd y (by decide), fun y => absurd y (by decide)⟩
    rw [Nat.zero_mul, e0, show n + 1 + (14 - n) = 15 by omega] at go
    exact go
  · rw [Nat.zero_mul, Nat.zero_add] at hM6
    rw [hX6.2.2.2.1]
    have hJ6 : J τ6 := J_car hJ (fun x n1 n2 => by rw [hX6.1 x (by omega)]; exact y1 x n1 n2) (fun x => by rw [hX6.2.1 x]; exact y2 x) (by rw [hX6.1 65 (by decide)]; exact y5 0 (by omega))
    have e67 : q_i τ6 67 = q_i τ 67 := by rw [hX6.1 67 (by decide)]; exact y1 67 (by decide) (by decide)
    unfold T_X11_carry
    refine r_areDoors (nd := nd) (by rw [e67]; exact d2) (fun _ => bn_t (by decide) (r_first hJ6 (fun τ8 h8 hq => ?_))) (fun z => absurd q z)
    rw [e67, hkn] at hq
    rw [e67, hkn]
    have hq : ∀ j, j < n → q_i τ8 78 j = nI (R j &&& D) := fun j hj => by rw [hq j hj, b_and, eR]
    intro v6 h6
    have h6 : v6 = nI (2 ^ n - 1) := by rw [h6, b_sh1 n (by omega), i_eq, i_m1 (by omega), nI_toInt (by omega)]; omega
    subst h6
    have key2 : ∀ (K : Int32 → Int32 → kT → Prop) (P : Int32 → kT → Prop), (∀ v, K (nI (bB (fun k => R k &&& D) n)) v τ8) → ∀ m k, k + m = n → L_X11_carry_29 (nI D) (nI n) (nI (2 ^ n - 1)) K P (m + 1) (nI (bB (fun k => R k &&& D) k)) (nI k) τ8 := by
      intro K P hK m
      induction m with
      | zero =>
        intro k hk
        have hk : k = n := by omega
        subst hk
        unfold L_X11_carry_29
        exact br_t (nI_le (Nat.le_refl _) (by omega)) (hK _)
      | succ m ih =>
        intro k hk
        unfold L_X11_carry_29
        refine br_f (nI_ge (by omega) (by omega)) ⟨k, rfl, by omega, fun v9 h9 v10 h10 => ?_⟩
        rw [h10, h9, hq k (by omega), show nI k + 1 = nI (k + 1) from nI_1 k, b_or]
        exact ih (k + 1) (by omega)
    refine ⟨n + 1, key2 _ _ (fun v τ15 h15 => ⟨2 ^ n + 1, ?_⟩) n 0 (by omega)⟩
    have V15 : VT τ6 τ15 := ⟨fun y n1 n2 n3 => by rw [h15, q_i_si, if_neg n3]; exact h8.1 y n1 n2 n3, fun k hk => by rw [h15]; exact h8.2.1 k hk, fun y => by rw [h15]; exact h8.2.2 y⟩
    refine r_63 hR hn14 (fun b2 v τ9 h9 hM9 => ⟨?_, h9.J hJ6⟩) (2 ^ n) 0 (2 ^ n - 1) τ15 (by omega) V15 (fun j hj => by rw [h15]; exact hq j hj) (fun y hy => absurd hy (by omega)) ⟨Or.inl rfl, by omega, cov_full hn14, fun S hS => absurd hS (by omega)⟩
    rw [RM.eq hM9 hM6]
