/-! ===== the pure part: reading behind writes ===== -/
theorem q_i_wi (τ : kT) (x : Nat) (f : Nat → Int32) (y : Nat) : q_i (q_wi τ x f) y = if y = x then f else q_i τ y := rfl
theorem q_i_si (τ : kT) (x k : Nat) (v : Int32) (y : Nat) : q_i (q_si τ x k v) y = if y = x then upd (q_i τ x) k v else q_i τ y := rfl
theorem q_i_wl (τ : kT) (x : Nat) (f : Nat → Int64) : q_i (q_wl τ x f) = q_i τ := rfl
theorem q_i_sl (τ : kT) (x k : Nat) (v : Int64) : q_i (q_sl τ x k v) = q_i τ := rfl
theorem q_l_wl (τ : kT) (x : Nat) (f : Nat → Int64) (y : Nat) : q_l (q_wl τ x f) y = if y = x then f else q_l τ y := rfl
theorem q_l_sl (τ : kT) (x k : Nat) (v : Int64) (y : Nat) : q_l (q_sl τ x k v) y = if y = x then vp_updL (q_l τ x) k v else q_l τ y := rfl
theorem q_l_wi (τ : kT) (x : Nat) (f : Nat → Int32) : q_l (q_wi τ x f) = q_l τ := rfl
theorem q_l_si (τ : kT) (x k : Nat) (v : Int32) : q_l (q_si τ x k v) = q_l τ := rfl
theorem upd_at (f : Nat → Int32) (k : Nat) (v : Int32) (j : Nat) : upd f k v j = if j = k then v else f j := rfl
/-! numbers -/
theorem i_lt {x y : Int32} : x < y ↔ x.toInt < y.toInt := Int32.lt_iff_toInt_lt
theorem i_le {x y : Int32} : x ≤ y ↔ x.toInt ≤ y.toInt := Int32.le_iff_toInt_le
theorem i_eq {x y : Int32} : x = y ↔ x.toInt = y.toInt := Int32.toInt_inj.symm
theorem i_m1 {n : Nat} (h : n < 2 ^ 30) : (nI n - 1).toInt = (n : Int) - 1 := by
  rw [show (1 : Int32) = nI 1 from rfl, pk_sub_toInt h (by omega)]
  rfl
theorem i_64 (x : Int32) : x.toInt64.toInt = x.toInt := by simp
def inn (a : Int32) (n : Nat) : Prop := ∃ j : Nat, j < n ∧ a = nI j
theorem inn_iff {a : Int32} {n : Nat} (hn : n < 2 ^ 31) : inn a n ↔ 0 ≤ a.toInt ∧ a.toInt < n := by
  constructor
  · rintro ⟨j, hj, rfl⟩
    rw [nI_toInt (by omega)]
    omega
  · intro h
    refine ⟨a.toInt.toNat, by omega, ?_⟩
    rw [i_eq, nI_toInt (by omega)]
    omega
theorem inn_nI {c n : Nat} (h : c < n) : inn (nI c) n := ⟨c, h, rfl⟩
/-! ranges -/
theorem s_rng_t {A B : Prop} {m : Int32} {c n : Nat} (hm : m = nI n) (hn : n < 2 ^ 31) (hc : c < n) (h : B) : (nI c < 0 → A) ∧ (¬ nI c < 0 → ((m ≤ nI c → A) ∧ (¬ m ≤ nI c → B))) := by
  subst hm
  exact ⟨fun q => absurd q (nI_pos (by omega)), fun _ => ⟨fun q => absurd q (nI_ge hc hn), fun _ => h⟩⟩
theorem s_rng_f {A B : Prop} {a m : Int32} {n : Nat} (hm : m = nI n) (hn : n < 2 ^ 31) (hc : ¬ inn a n) (h : A) : (a < 0 → A) ∧ (¬ a < 0 → ((m ≤ a → A) ∧ (¬ m ≤ a → B))) := by
  subst hm
  refine ⟨fun _ => h, fun q => ⟨fun _ => h, fun q2 => absurd ((inn_iff hn).mpr ?_) hc⟩⟩
  rw [i_lt] at q
  rw [i_le, nI_toInt hn] at q2
  have : (0 : Int32).toInt = 0 := rfl
  omega
theorem s_cmp {x y : Int64} : (lg_cmp x y < 0 ↔ x.toInt < y.toInt) ∧ (0 < lg_cmp x y ↔ y.toInt < x.toInt) ∧ (lg_cmp x y = 0 ↔ x = y) := by
  unfold lg_cmp
  by_cases h1 : y < x
  · have h2 := Int64.lt_iff_toInt_lt.mp h1
    rw [if_pos h1]
    refine ⟨⟨fun q => absurd q (by decide), fun q => by omega⟩, ⟨fun _ => h2, fun _ => by decide⟩, ⟨fun q => absurd q (by decide), fun e => by rw [e] at h2; omega⟩⟩
  · rw [if_neg h1]
    have h4 : ¬ y.toInt < x.toInt := fun q => h1 (Int64.lt_iff_toInt_lt.mpr q)
    by_cases h3 : x = y
    · rw [if_pos h3]
      have h5 : x.toInt = y.toInt := by rw [h3]
      refine ⟨⟨fun q => absurd q (by decide), fun q => by omega⟩, ⟨fun q => absurd q (by decide), fun q => absurd q h4⟩, ⟨fun _ => h3, fun _ => rfl⟩⟩
    · rw [if_neg h3]
      have h5 : x.toInt ≠ y.toInt := fun q => h3 (Int64.toInt_inj.mp q)
      refine ⟨⟨fun _ => by omega, fun _ => by decide⟩, ⟨fun q => absurd q (by decide), fun q => absurd q h4⟩, ⟨fun q => absurd q (by decide), fun q => absurd q h3⟩⟩
theorem s_in_t {x a b : Int64} {τ : kT} {post : Int32 → kT → Prop} (h : a.toInt ≤ x.toInt ∧ x.toInt ≤ b.toInt) (hp : post 1 τ) : T_X11_in x a b τ post := by
  unfold T_X11_in
  refine ⟨fun q => ?_, fun _ => ⟨fun q => ?_, fun _ => hp⟩⟩
  · rw [s_cmp.1] at q; omega
  · rw [s_cmp.2.1] at q; omega
theorem s_in_f {x a b : Int64} {τ : kT} {post : Int32 → kT → Prop} (h : ¬ (a.toInt ≤ x.toInt ∧ x.toInt ≤ b.toInt)) (hp : post 0 τ) : T_X11_in x a b τ post := by
  unfold T_X11_in
  refine ⟨fun _ => hp, fun q => ⟨fun _ => hp, fun q2 => ?_⟩⟩
  rw [s_cmp.1] at q
  rw [s_cmp.2.1] at q2
  omega
/-! ===== slots: (sort, number, place): where the class and the reference hold the same number ===== -/
abbrev sl : Type := Nat × Nat × Nat
def sl_s : sl → Nat
  | (0, c, _) => [8525, 8526, 8527, 8522, 8528, 8523, 8524].getD c 8529
  | (1, c, _) => c
  | (2, c, _) => 100 + c
  | (3, c, _) => 200 + c
  | (4, c, _) => 300 + c
  | (5, c, j) => 400 + 18 * c + j
  | (6, _, j) => 8504 + j
  | (7, c, _) => 2200 + c
  | (8, c, _) => 4100 + c
  | (9, c, j) => 2300 + 18 * c + j
  | (10, c, _) => 4200 + c
  | (11, c, _) => 4212 + c
  | (12, c, j) => 4224 + 20 * c + j
  | (_, c, _) => 4464 + c
def sl_x : sl → Nat
  | (0, c, _) => [0, 0, 0, 1, 1, 8, 14].getD c 18
  | (1, _, _) => 2
  | (2, _, _) => 3
  | (3, _, _) => 5
  | (4, _, _) => 6
  | (5, _, _) => 4
  | (6, _, _) => 7
  | (7, _, _) => 9
  | (8, _, _) => 11
  | (9, _, _) => 10
  | (10, _, _) => 15
  | (11, _, _) => 16
  | (12, _, _) => 17
  | (_, _, _) => 18
def sl_k : sl → Nat
  | (0, c, _) => [4, 5, 6, 5, 6, 5, 3].getD c 0
  | (5, c, j) => c * 18 + j
  | (6, _, j) => j
  | (9, c, j) => c * 18 + j
  | (12, c, j) => c * 20 + j
  | (_, c, _) => c
def N (s : Nat → Int32) (i : Nat) : Nat := (s i).toNatClampNeg
/-- the slots that are in use -/
def sl_d (s : Nat → Int32) : sl → Prop
  | (0, c, j) => c < 7 ∧ j = 0
  | (1, c, j) => c < N s 8522 ∧ j = 0
  | (2, c, j) => c < N s 8522 ∧ j = 0
  | (3, c, j) => c < N s 8522 ∧ j = 0
  | (4, c, j) => c < N s 8522 ∧ j = 0
  | (5, c, j) => c < N s 8522 ∧ j < N s (100 + c)
  | (6, c, j) => c = 0 ∧ j < N s 8528
  | (7, c, j) => c < N s 8523 ∧ j = 0
  | (8, c, j) => c < N s 8523 ∧ j = 0
  | (9, c, j) => c < N s 8523 ∧ j < N s (2200 + c)
  | (10, c, j) => c < N s 8524 ∧ j = 0
  | (11, c, j) => c < N s 8524 ∧ j = 0
  | (12, c, j) => c < N s 8524 ∧ j < N s (4212 + c)
  | (13, c, j) => c < N s 8525 ∧ j = 0
  | (_, _, _) => False
def z_or (x : Int32) (P : Nat → Prop) : Prop := x = -1 ∨ ∃ c : Nat, P c ∧ x = nI c
def popc : Nat → Nat → Nat
  | 0, _ => 0
  | k + 1, m => popc k m + (m / 2 ^ k) % 2
def mostK (k : Nat) : Nat := if k = 0 then 1 else if k = 3 then 0 else 4
/-- what always holds of the reference's row st -/
def InvS (s : Nat → Int32) : Prop :=
  (s 8522 = nI (N s 8522) ∧ N s 8522 ≤ 100) ∧ (s 8523 = nI (N s 8523) ∧ N s 8523 ≤ 100) ∧ (s 8524 = nI (N s 8524) ∧ N s 8524 ≤ 12) ∧ (s 8525 = nI (N s 8525) ∧ N s 8525 ≤ 40) ∧ (s 8526 = nI (N s 8526) ∧ N s 8526 ≤ 40) ∧ (s 8527 = nI (N s 8527) ∧ N s 8527 ≤ 1000) ∧
  z_or (s 8528) (· ≤ 18) ∧
  (∀ c, c < N s 8522 → (s c = nI (N s c) ∧ N s c ≤ 4) ∧ z_or (s (100 + c)) (· ≤ 18) ∧ (s (100 + c) = -1 → s c = 2) ∧ (s c = 4 → s (100 + c) = 0) ∧ z_or (s (200 + c)) (fun x => x < N s 8522 ∧ s x ≠ 4) ∧ z_or (s (300 + c)) (fun x => x < N s 8522 ∧ s x ≠ 4)) ∧
  (∀ c j, c < N s 8522 → j < 18 → s (400 + 18 * c + j) = nI (N s (400 + 18 * c + j)) ∧ N s (400 + 18 * c + j) < 1024 ∧ popc 10 (N s (400 + 18 * c + j)) ≤ mostK (N s c) ∧ (N s (100 + c) ≤ j → s (400 + 18 * c + j) = 0)) ∧
  (s 8528 ≠ -1 → ∀ j, j < 18 → s (8504 + j) = nI (N s (8504 + j)) ∧ N s (8504 + j) < 1024 ∧ popc 10 (N s (8504 + j)) ≤ 4 ∧ (N s 8528 ≤ j → s (8504 + j) = 0)) ∧
  (∀ k, k < N s 8523 → (s (2200 + k) = nI (N s (2200 + k)) ∧ N s (2200 + k) ≤ 18) ∧ (z_or (s (4100 + k)) (· < N s 8526) ∨ s (4100 + k) = -6)) ∧
  (∀ k i, k < N s 8523 → i < N s (2200 + k) → s (2300 + 18 * k + i) = nI (N s (2300 + 18 * k + i)) ∧ N s (2300 + 18 * k + i) ≤ 9) ∧
  (∀ k d, k < N s 8523 → d < 40 → (s (4504 + 40 * k + d) = 0 ∨ (d < N s 8525 ∧ (s (4504 + 40 * k + d) = 1 ∨ s (4504 + 40 * k + d) = 2)))) ∧
  (∀ c, c < N s 8524 → (s (4200 + c) = nI (N s (4200 + c)) ∧ N s (4200 + c) ≤ 4) ∧ (s (4212 + c) = nI (N s (4212 + c)) ∧ N s (4212 + c) ≤ 20)) ∧
  (∀ c p, c < N s 8524 → p < N s (4212 + c) → z_or (s (4224 + 20 * c + p)) (· < N s 8522)) ∧
  (∀ d, d < N s 8525 → z_or (s (4464 + d)) (· < N s 8522))
/-- a wish, out of the class's two words of bits -/
def wishOf (o n : Int64) (d : Nat) : Int32 := if o &&& (1 <<< Int64.ofNat d) ≠ 0 then (if n &&& (1 <<< Int64.ofNat d) ≠ 0 then 3 else 1) else if n &&& (1 <<< Int64.ofNat d) ≠ 0 then 2 else 0
/-- a shop's cells from b on hold what s holds -/
def Corr (τ : kT) (b : Nat) (s : Nat → Int32) : Prop :=
  (∀ e, sl_d s e → q_i τ (b + sl_x e) (sl_k e) = s (sl_s e)) ∧ (∀ k d, k < N s 8523 → d < 40 → wishOf (q_l τ (b + 12) k) (q_l τ (b + 13) k) d = s (4504 + 40 * k + d))
/-- the invariant of the law's loop -/
def J (τ : kT) : Prop :=
  InvS (q_i τ 67) ∧ Corr τ 1 (q_i τ 67) ∧ (q_i τ 0 2 = 0 ∨ q_i τ 0 2 = 1) ∧ q_i τ 66 2 = q_i τ 0 2 ∧ (q_i τ 0 2 = 1 → InvS (q_i τ 68) ∧ Corr τ 20 (q_i τ 68)) ∧
  (q_i τ 66 3 = q_i τ 0 3 ∧ q_i τ 66 4 = q_i τ 0 4 ∧ q_i τ 66 5 = q_i τ 0 5) ∧ q_i τ 66 6 = q_i τ 39 1 ∧ q_i τ 66 10 = q_i τ 45 0 ∧
  (q_i τ 66 9 = q_i τ 40 1 ∧ q_i τ 40 1 = nI (N (q_i τ 40) 1) ∧ N (q_i τ 40) 1 ≤ 1000 ∧ ∀ i, i < 40 → i < N (q_i τ 40) 1 → q_i τ 69 i = q_i τ 41 i) ∧
  (∀ k, 8530 ≤ k → q_i τ 67 k = 0 ∧ q_i τ 68 k = 0) ∧ q_i τ 65 0 = 0
