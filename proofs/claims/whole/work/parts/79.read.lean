/-! ===== what the search is given ===== -/
theorem asked_ok : ∀ d, d ≤ 6 → ((1 : Int64) <<< ((nI d).toInt64 &&& 63)) - 1 = Int64.ofNat (2 ^ d - 1) := by decide
theorem bit_ok : ∀ j, j < 6 → ((1 : Int64) <<< Int64.ofNat j).toBitVec = BitVec.twoPow 64 j := by decide
theorem ob (o : Int64) (j : Nat) (hj : j < 6) : o &&& ((1 : Int64) <<< Int64.ofNat j) ≠ 0 ↔ o.toBitVec.getLsbD j = true := by
  rw [ne_eq, ← Int64.toBitVec_inj, Int64.toBitVec_and, bit_ok j hj, BitVec.and_twoPow]
  cases z : o.toBitVec.getLsbD j with
  | true =>
    simp
    intro h
    have := congrArg (fun v : BitVec 64 => v.getLsbD j) h
    simp at this
    omega
  | false => simp
theorem am (o : Int64) (d : Nat) (hd : d ≤ 6) : ∃ m, m < 64 ∧ (o &&& Int64.ofNat (2 ^ d - 1)).toInt32 = nI m ∧ ∀ j, j < d → m.testBit j = o.toBitVec.getLsbD j := by
  have hp : 2 ^ d ≤ 2 ^ 6 := Nat.pow_le_pow_right (by decide) hd
  have hA : (Int64.ofNat (2 ^ d - 1)).toBitVec = BitVec.ofNat 64 (2 ^ d - 1) := rfl
  have hm : (o &&& Int64.ofNat (2 ^ d - 1)).toBitVec.toNat < 64 := by
    rw [Int64.toBitVec_and, hA, BitVec.toNat_and, BitVec.toNat_ofNat]
    refine Nat.lt_of_le_of_lt Nat.and_le_right ?_
    refine Nat.lt_of_le_of_lt (Nat.mod_le _ _) ?_
    omega
  refine ⟨(o &&& Int64.ofNat (2 ^ d - 1)).toBitVec.toNat, hm, ?_, fun j hj => ?_⟩
  · apply Int32.toBitVec_inj.mp
    rw [Int64.toBitVec_toInt32, BitVec.signExtend_eq_setWidth_of_le _ (by decide)]
    apply BitVec.eq_of_toNat_eq
    rw [BitVec.toNat_setWidth]
    show _ = (BitVec.ofNat 32 _).toNat
    rw [BitVec.toNat_ofNat]
  · rw [BitVec.testBit_toNat, Int64.toBitVec_and, BitVec.getLsbD_and, hA]
    have : (BitVec.ofNat 64 (2 ^ d - 1)).getLsbD j = true := by
      rw [BitVec.getLsbD_ofNat, Nat.testBit_two_pow_sub_one]
      simp; omega
    rw [this, Bool.and_true]
/-! the data, out of the state -/
def cyS (s : Nat → Int32) (j : Nat) : Nat := N s (4464 + j)
def msS (s : Nat → Int32) (j : Nat) : Nat := mostK (N s (cyS s j))
def blS (s : Nat → Int32) (j : Nat) : Bool := decide (N s (cyS s j) = 3)
def hhS (s : Nat → Int32) (j c : Nat) : Nat := N s (400 + 18 * cyS s j + c)
def opS (s : Nat → Int32) (y j : Nat) : Bool := decide (s (4504 + 40 * y + j) = 1)
def nvS (s : Nat → Int32) (lo y j : Nat) : Bool := if y = lo then decide ((rwK s lo (s (4464 + j))).1 = 1) else decide (s (4504 + 40 * y + j) = 2)
def lcS (s : Nat → Int32) (lo c : Nat) : Nat := N s (2300 + 18 * lo + c)
def cT (lo y : Nat) : Nat := if lo < y then y - 1 else y
/-- the first d doors can be cut for -/
def DOK (s : Nat → Int32) (d n : Nat) : Prop := ∀ j, j < d → s (4464 + j) = nI (cyS s j) ∧ cyS s j < N s 8522 ∧ s (cyS s j) ≠ 4 ∧ s (100 + cyS s j) = nI n ∧ ∀ i, i < j → cyS s i ≠ cyS s j
theorem key_cT {lo t y : Nat} (h : t < cT lo y) : key lo t < y := by
  unfold cT key at *
  split at h <;> split <;> omega
theorem cT_key {lo y y' : Nat} (h : y' < y) (hn : y' ≠ lo) : cT lo y' < cT lo y ∧ key lo (cT lo y') = y' := by
  unfold cT key
  constructor
  · split <;> split <;> omega
  · split <;> split <;> omega
theorem cT_s {lo y : Nat} (hn : y ≠ lo) : cT lo (y + 1) = cT lo y + 1 ∧ key lo (cT lo y) = y := by
  unfold cT key
  constructor
  · split <;> split <;> omega
  · split <;> split <;> omega
theorem cT_l (lo : Nat) : cT lo (lo + 1) = cT lo lo := by
  unfold cT
  rw [if_pos (by omega), if_neg (by omega)]; omega
theorem opM_tb (s : Nat → Int32) (k j : Nat) : ∀ D, (opM s k D).testBit j = true ↔ j < D ∧ (rwK s k (s (4464 + j))).1 = 1
  | 0 => by
    unfold opM
    rw [Nat.zero_testBit]
    exact ⟨fun y => absurd y (by decide), fun y => absurd y.1 (by omega)⟩
  | D + 1 => by
    have ih := opM_tb s k j D
    unfold opM
    by_cases q : (rwK s k (s (4464 + D))).1 = 1
    · rw [if_pos q, Nat.testBit_or, Bool.or_eq_true, ih, Nat.testBit_two_pow, decide_eq_true_eq]
      constructor
      · rintro (y | rfl)
        · exact ⟨by omega, y.2⟩
        · exact ⟨by omega, q⟩
      · rintro ⟨y1, y2⟩
        by_cases e : D = j
        · exact Or.inr e
        · exact Or.inl ⟨by omega, y2⟩
    · rw [if_neg q, ih]
      constructor
      · rintro ⟨y1, y2⟩; exact ⟨by omega, y2⟩
      · rintro ⟨y1, y2⟩
        by_cases e : j = D
        · rw [e] at y2; exact absurd y2 q
        · exact ⟨by omega, y2⟩
/-! a wish, out of the bits -/
theorem wish_o {τ : kT} (hJ : J τ) {y j : Nat} (hy : y < N (q_i τ 67) 8523) (hj : j < 6) : ((q_l τ 13 y).toBitVec.getLsbD j = true ↔ q_i τ 67 (4504 + 40 * y + j) = 1) ∧ ((q_l τ 14 y).toBitVec.getLsbD j = true ↔ q_i τ 67 (4504 + 40 * y + j) = 2) := by
  have e : wishOf (q_l τ 13 y) (q_l τ 14 y) j = q_i τ 67 (4504 + 40 * y + j) := hJ.2.1.2 y j hy (by omega)
  have v : q_i τ 67 (4504 + 40 * y + j) ≠ 3 := by
    rcases hJ.1.2.2.2.2.2.2.2.2.2.2.2.2.1 y j hy (by omega) with z | ⟨-, z | z⟩ <;> rw [z] <;> decide
  rw [← e] at v ⊢
  unfold wishOf at v ⊢
  rw [← ob _ j hj, ← ob _ j hj]
  by_cases a : q_l τ 13 y &&& ((1 : Int64) <<< Int64.ofNat j) ≠ 0
  · by_cases b : q_l τ 14 y &&& ((1 : Int64) <<< Int64.ofNat j) ≠ 0
    · rw [if_pos a, if_pos b] at v; exact absurd rfl v
    · rw [if_pos a, if_neg b]
      exact ⟨⟨fun _ => rfl, fun _ => a⟩, ⟨fun w => absurd w b, fun w => absurd w (by decide)⟩⟩
  · by_cases b : q_l τ 14 y &&& ((1 : Int64) <<< Int64.ofNat j) ≠ 0
    · rw [if_neg a, if_pos b]
      exact ⟨⟨fun w => absurd w a, fun w => absurd w (by decide)⟩, ⟨fun _ => rfl, fun _ => b⟩⟩
    · rw [if_neg a, if_neg b]
      exact ⟨⟨fun w => absurd w a, fun w => absurd w (by decide)⟩, ⟨fun w => absurd w b, fun w => absurd w (by decide)⟩⟩
/-! the class reads -/
def FR (τ τ2 : kT) : Prop := (∀ x, x < 42 ∨ 59 ≤ x → q_i τ2 x = q_i τ x) ∧ (∀ x, q_l τ2 x = q_l τ x)
theorem FR.si {τ τ2 : kT} (h : FR τ τ2) {x : Nat} (hx : 42 ≤ x ∧ x < 59) (k : Nat) (v : Int32) : FR τ (q_si τ2 x k v) := ⟨fun y hy => by rw [q_i_si, if_neg (by omega)]; exact h.1 y hy, h.2⟩
theorem FR.J0 {τ τ2 : kT} (h : FR τ τ2) (hJ : J τ) (h45 : q_i τ2 45 0 = q_i τ 45 0) : J τ2 := by
  obtain ⟨-, -, -, -, -, s, a7, a8, a9, -⟩ := id hJ
  have gg : ∀ x, x = 0 ∨ x = 39 ∨ x = 40 ∨ x = 41 ∨ x = 65 ∨ x = 66 ∨ x = 67 ∨ x = 68 ∨ x = 69 → q_i τ2 x = q_i τ x := fun x hx => h.1 x (by omega)
  exact hJ.keep ⟨fun x _ _ => h.1 x (by omega), fun x _ _ => h.2 x, gg 67 (by decide), gg 68 (by decide)⟩ ⟨by rw [gg 0 (by decide)], by rw [gg 66 (by decide)]⟩ (by rw [gg 0 (by decide), gg 66 (by decide)]; exact s) (by rw [gg 39 (by decide), gg 66 (by decide)]; exact a7) (by rw [h45, gg 66 (by decide)]; exact a8) (by rw [gg 40 (by decide), gg 41 (by decide), gg 66 (by decide), gg 69 (by decide)]; exact a9) (by rw [gg 65 (by decide)])
theorem c_readDoors {τ τa : kT} {d n : Nat} (hJ : J τ) (hF : FR τ τa) (hd : d ≤ 6) (hdn : d ≤ N (q_i τ 67) 8525) (hn : n ≤ 5) (hD : DOK (q_i τ 67) d n) (e2 : q_i τa 45 2 = nI d) (e3 : q_i τa 45 3 = nI n) {post : kT → Prop} (h : ∀ τ2, FR τ τ2 → (∀ x, x ≠ 45 → x ≠ 49 → x ≠ 50 → q_i τ2 x = q_i τa x) → (∀ i, i ≠ 11 → q_i τ2 45 i = q_i τa 45 i) → (∃ bm, bm < 2 ^ 31 ∧ q_i τ2 45 11 = nI bm ∧ ∀ j, j < d → bm.testBit j = blS (q_i τ 67) j) → (∀ j, j < d → q_i τ2 49 j = nI (msS (q_i τ 67) j)) → (∀ j, j < d → ∀ c, c < n → q_i τ2 50 (j * 5 + c) = nI (hhS (q_i τ 67) j c)) → post τ2) : T_X3_readDoors τa post := by
  obtain ⟨nc, hnc, c1, c2, c3⟩ := hJ.nc
  intro τ1 h1
  have loop : ∀ m j τ2 bm, j + m = d → FR τ τ2 → (∀ x, x ≠ 45 → x ≠ 49 → x ≠ 50 → q_i τ2 x = q_i τa x) → (∀ i, i ≠ 11 → q_i τ2 45 i = q_i τa 45 i) → bm < 2 ^ j → q_i τ2 45 11 = nI bm → (∀ j', j' < j → bm.testBit j' = blS (q_i τ 67) j') → (∀ j', j' < j → q_i τ2 49 j' = nI (msS (q_i τ 67) j')) → (∀ j', j' < j → ∀ c, c < n → q_i τ2 50 (j' * 5 + c) = nI (hhS (q_i τ 67) j' c)) → L_X3_readDoors_7 (fun v28 τ29 => post τ29) post (m + 1) (nI j) τ2 := by
    intro m
    induction m with
    | zero =>
      intro j τ2 bm hj hF2 hx hi b0 b1 b2 m1 m2
      have hj : j = d := by omega
      subst hj
      unfold L_X3_readDoors_7
      refine br_t (by rw [hi 2 (by decide), e2]; exact nI_le (Nat.le_refl _) (by omega)) (h τ2 hF2 hx hi ⟨bm, Nat.lt_of_lt_of_le b0 (Nat.pow_le_pow_right (by decide) (by omega)), b1, b2⟩ m1 m2)
    | succ m ih =>
      intro j τ2 bm hj hF2 hx hi b0 b1 b2 m1 m2
      have hjd : j < d := by omega
      obtain ⟨y1, y2, y3, y4, -⟩ := hD j hjd
      obtain ⟨kd, kd4, kd1, kd2, kd3⟩ := hJ.kd y2
      have k4 : kd < 4 := by
        rcases Nat.lt_or_ge kd 4 with z | z
        · exact z
        · exact absurd (by rw [kd2, show kd = 4 by omega]; rfl) y3
      have cl : cyS (q_i τ 67) j < nc := by rw [← c3]; exact y2
      have e19 : q_i τ 19 j = nI (cyS (q_i τ 67) j) := (hJ.2.1.1 (13, j, 0) ⟨Nat.lt_of_lt_of_le hjd hdn, rfl⟩).trans y1
      have e4 : q_i τ 4 (cyS (q_i τ 67) j) = nI n := (hJ.2.1.1 (2, _, 0) ⟨y2, rfl⟩).trans y4
      have g : ∀ {τ' : kT}, FR τ τ' → ∀ x, x < 39 → q_i τ' x = q_i τ x := fun hF x hx => hF.1 x (by omega)
      have ems : msS (q_i τ 67) j = mostK kd := by unfold msS; rw [kd3]
      unfold L_X3_readDoors_7
      refine br_f (by rw [hi 2 (by decide), e2]; exact nI_ge (by omega) (by omega)) ⟨j, rfl, by omega, fun v4 h4 => ?_⟩
      rw [g hF2 19 (by decide), e19] at h4
      subst h4
      refine s_X4_most (n := nc) (k := kd) (by rw [g hF2 2 (by decide)]; exact c1) hnc cl k4 (by rw [g hF2 3 (by decide)]; exact kd1) ⟨j, rfl, by omega, fun τ8 h8 => ?_⟩
      have hF8 : FR τ τ8 := by rw [h8]; exact hF2.si ⟨by decide, by decide⟩ _ _
      -- the chambers
      have rest : ∀ τ9 bm', FR τ τ9 → (∀ x, x ≠ 45 → x ≠ 49 → x ≠ 50 → q_i τ9 x = q_i τa x) → (∀ i, i ≠ 11 → q_i τ9 45 i = q_i τa 45 i) → bm' < 2 ^ (j + 1) → q_i τ9 45 11 = nI bm' → (∀ j', j' < j + 1 → bm'.testBit j' = blS (q_i τ 67) j') → q_i τ9 49 = q_i τ8 49 → q_i τ9 50 = q_i τ2 50 → ∃ m18 : Nat, L_X3_readDoors_62 (nI j) (nI (cyS (q_i τ 67) j)) (fun v19 τ20 => (∀ v21 : Int32, v21 = nI j + (1 : Int32) → L_X3_readDoors_7 (fun v28 τ29 => post τ29) post (m + 1) v21 τ20)) post m18 (0 : Int32) τ9 := by
        intro τ9 bm' hF9 hx9 hi9 b0' b1' b2' e49 e50
        have inner : ∀ i c τ3, c + i = n → FR τ τ3 → (∀ x, x ≠ 50 → q_i τ3 x = q_i τ9 x) → (∀ j', j' < j → ∀ c, c < n → q_i τ3 50 (j' * 5 + c) = nI (hhS (q_i τ 67) j' c)) → (∀ c', c' < c → q_i τ3 50 (j * 5 + c') = nI (hhS (q_i τ 67) j c')) → L_X3_readDoors_62 (nI j) (nI (cyS (q_i τ 67) j)) (fun v19 τ20 => (∀ v21 : Int32, v21 = nI j + (1 : Int32) → L_X3_readDoors_7 (fun v28 τ29 => post τ29) post (m + 1) v21 τ20)) post (i + 1) (nI c) τ3 := by
          intro i
          induction i with
          | zero =>
            intro c τ3 hc hF3 h3 p1 p2
            have hc : c = n := by omega
            subst hc
            unfold L_X3_readDoors_62
            refine br_t (by rw [h3 45 (by decide), hi9 3 (by decide), e3]; exact nI_le (Nat.le_refl _) (by omega)) (fun v21 h21 => ?_)
            rw [h21, show nI j + 1 = nI (j + 1) from nI_1 j]
            refine ih (j + 1) τ3 bm' (by omega) hF3 (fun x n1 n2 n3 => by rw [h3 x n3]; exact hx9 x n1 n2 n3) (fun i hi => by rw [h3 45 (by decide)]; exact hi9 i hi) b0' (by rw [h3 45 (by decide)]; exact b1') b2' (fun j' hj' => ?_) (fun j' hj' c' hc' => ?_)
            · rw [h3 49 (by decide), e49, h8, q_i_si, if_pos rfl, upd_at]
              by_cases e : j' = j
              · rw [if_pos e, e, ems]
              · rw [if_neg e]; exact m1 j' (by omega)
            · by_cases e : j' = j
              · rw [e]; exact p2 c' hc'
              · exact p1 j' (by omega) c' hc'
          | succ i ihc =>
            intro c τ3 hc hF3 h3 p1 p2
            have ec : q_i τ 5 (cyS (q_i τ 67) j * 18 + c) = nI (hhS (q_i τ 67) j c) := by
              have e1 : q_i τ 5 (cyS (q_i τ 67) j * 18 + c) = q_i τ 67 (400 + 18 * cyS (q_i τ 67) j + c) := hJ.2.1.1 (5, _, c) ⟨y2, by
                show c < N (q_i τ 67) (100 + cyS (q_i τ 67) j)
                have : N (q_i τ 67) (100 + cyS (q_i τ 67) j) = n := by unfold N; rw [y4, nI_clamp (by omega)]
                rw [this]; omega⟩
              obtain ⟨mm, -, m2, m3⟩ := hJ.1.hts y2 (i := c) (by omega)
              rw [e1, m2]
              unfold hhS
              rw [m3]
            unfold L_X3_readDoors_62
            refine br_f (by rw [h3 45 (by decide), hi9 3 (by decide), e3]; exact nI_ge (by omega) (by omega)) (s_heightsIn (n := nc) (r := n) (by rw [g hF3 2 (by decide)]; exact c1) hnc cl (by rw [g hF3 4 (by decide)]; exact e4) (by omega) (by omega) ⟨j * 5 + c, ix5 j c, by omega, fun τ16 h16 v17 h17 => ?_⟩)
            rw [g hF3 5 (by decide), ec] at h16
            subst h16
            rw [h17, show nI c + 1 = nI (c + 1) from nI_1 c]
            refine ihc (c + 1) _ (by omega) (hF3.si ⟨by decide, by decide⟩ _ _) (fun x hx => by rw [q_i_si, if_neg hx]; exact h3 x hx) (fun j' hj' c' hc' => ?_) (fun c' hc' => ?_)
            · rw [q_i_si, if_pos rfl, upd_ne (by omega)]; exact p1 j' hj' c' hc'
            · rw [q_i_si, if_pos rfl, upd_at]
              by_cases e : c' = c
              · rw [if_pos (by rw [e]), e]
              · rw [if_neg (by omega)]; exact p2 c' (by omega)
        exact ⟨n + 1, inner n 0 τ9 (by omega) hF9 (fun _ _ => rfl) (fun j' hj' c' hc' => by rw [e50]; exact m2 j' hj' c' hc') (fun c' hc' => absurd hc' (by omega))⟩
      have x8 : ∀ x, x ≠ 45 → x ≠ 49 → x ≠ 50 → q_i τ8 x = q_i τa x := fun x n1 n2 n3 => by rw [h8, q_i_si, if_neg n2]; exact hx x n1 n2 n3
      have i8 : ∀ i, q_i τ8 45 i = q_i τ2 45 i := fun i => by rw [h8]; rfl
      have bl0 : bm.testBit j = false := Nat.testBit_lt_two_pow b0
      have p2j : bm < 2 ^ (j + 1) := Nat.lt_of_lt_of_le b0 (Nat.pow_le_pow_right (by decide) (by omega))
      refine s_X4_isBlind (n := nc) (by rw [g hF8 2 (by decide)]; exact c1) hnc cl (fun q => br_f (by decide) (fun τ22 h22 => ?_)) (fun q => br_t rfl ?_)
      · rw [g hF8 3 (by decide), kd1] at q
        have kd3' : kd = 3 := (nI_eq (b := 3) (by omega) (by decide)).mp q
        rw [i8 11, b1, b_sh1 j (by omega), b_or] at h22
        refine rest τ22 (bm ||| 2 ^ j) (by rw [h22]; exact hF8.si ⟨by decide, by decide⟩ _ _) (fun x n1 n2 n3 => by rw [h22, q_i_si, if_neg n1]; exact x8 x n1 n2 n3) (fun i hi' => ?_) (set_lt p2j (by omega)) (by rw [h22, q_i_si, if_pos rfl, upd_eq]) (fun j' hj' => ?_) (by rw [h22]; rfl) (by rw [h22, h8]; rfl)
        · rw [h22, q_i_si, if_pos rfl, upd_ne hi', i8]; exact hi i hi'
        · rw [set_tb]
          by_cases e : j' = j
          · rw [e]
            unfold blS
            rw [kd3, kd3']
            simp
          · rw [b2 j' (by omega)]
            have : decide (j = j') = false := decide_eq_false (fun y => e y.symm)
            rw [this, Bool.or_false]
      · rw [g hF8 3 (by decide), kd1] at q
        have kd3' : kd ≠ 3 := fun y => q (by rw [y]; rfl)
        refine rest τ8 bm hF8 x8 (fun i hi' => by rw [i8]; exact hi i hi') p2j (by rw [i8]; exact b1) (fun j' hj' => ?_) rfl (by rw [h8]; rfl)
        by_cases e : j' = j
        · rw [e, bl0]
          unfold blS
          rw [kd3, decide_eq_false kd3']
        · exact b2 j' (by omega)
  refine ⟨d + 1, loop d 0 τ1 0 (by omega) (by rw [h1]; exact hF.si ⟨by decide, by decide⟩ _ _) (fun x n1 n2 n3 => by rw [h1, q_i_si, if_neg n1]) (fun i hi => by rw [h1, q_i_si, if_pos rfl, upd_ne hi]) (by decide) (by rw [h1]; rfl) (fun j' hj' => absurd hj' (by omega)) (fun j' hj' => absurd hj' (by omega)) (fun j' hj' => absurd hj' (by omega))⟩
