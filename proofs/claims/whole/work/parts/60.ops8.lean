/-! ===== the doors that a key would open ===== -/
def opM (s : Nat → Int32) (k : Nat) : Nat → Nat
  | 0 => 0
  | d + 1 => if (rwK s k (s (4464 + d))).1 = 1 then opM s k d ||| 2 ^ d else opM s k d
theorem opM_lt (s : Nat → Int32) (k : Nat) : ∀ d, opM s k d < 2 ^ d
  | 0 => Nat.one_pos
  | d + 1 => by
    unfold opM
    have := opM_lt s k d
    have h2 : opM s k d < 2 ^ (d + 1) := Nat.lt_of_lt_of_le this (Nat.pow_le_pow_right (by decide) (by omega))
    split
    · exact set_lt h2 (by omega)
    · exact h2
def dN (s : Nat → Int32) : Nat := if N s 8525 < 31 then N s 8525 else 31
def US (τ τ2 : kT) : Prop := (∀ x, x ≠ 42 → x ≠ 43 → x ≠ 44 → q_i τ2 x = q_i τ x) ∧ (∀ x, q_l τ2 x = q_l τ x)
theorem US.J {τ τ2 : kT} (h : US τ τ2) (hJ : J τ) : J τ2 := by
  obtain ⟨-, -, -, -, -, s, a7, a8, a9, -⟩ := id hJ
  have g : ∀ x, x ≠ 42 → x ≠ 43 → x ≠ 44 → q_i τ2 x = q_i τ x := h.1
  exact hJ.keep ⟨fun x _ _ => g x (by omega) (by omega) (by omega), fun x _ _ => h.2 x, g 67 (by decide) (by decide) (by decide), g 68 (by decide) (by decide) (by decide)⟩ ⟨by rw [g 0 (by decide) (by decide) (by decide)], by rw [g 66 (by decide) (by decide) (by decide)]⟩ (by rw [g 0 (by decide) (by decide) (by decide), g 66 (by decide) (by decide) (by decide)]; exact s) (by rw [g 39 (by decide) (by decide) (by decide), g 66 (by decide) (by decide) (by decide)]; exact a7) (by rw [g 45 (by decide) (by decide) (by decide), g 66 (by decide) (by decide) (by decide)]; exact a8) (by rw [g 40 (by decide) (by decide) (by decide), g 41 (by decide) (by decide) (by decide), g 66 (by decide) (by decide) (by decide), g 69 (by decide) (by decide) (by decide)]; exact a9) (by rw [g 65 (by decide) (by decide) (by decide)])
theorem US.trans {τ τ2 τ3 : kT} (h : US τ τ2) (h2 : US τ2 τ3) : US τ τ3 := ⟨fun x n1 n2 n3 => (h2.1 x n1 n2 n3).trans (h.1 x n1 n2 n3), fun x => (h2.2 x).trans (h.2 x)⟩
theorem TSu.US {τ τ2 : kT} {n : Nat} {f : Nat → Int32} {sp : Int32} (h : TSu τ τ2 n f sp) : US τ τ2 := ⟨h.1, h.2.1⟩
theorem s_min {n b : Nat} (hn : n < 2 ^ 31) (hb : b < 2 ^ 31) : q_min (nI n) (nI b) = nI (if n < b then n else b) := by
  unfold q_min
  by_cases h : n < b
  · rw [if_pos h]
    first
      | rw [if_pos (nI_le (by omega) (by omega))]
      | rw [if_pos (nI_lt (by omega) (by omega))]
      | rw [if_neg (nI_nlt (by omega) (by omega))]
      | rw [if_neg (nI_ge (by omega) (by omega))]
  · rw [if_neg h]
    by_cases e : n = b
    · subst e; split <;> rfl
    · first
        | rw [if_neg (nI_ge (by omega) (by omega))]
        | rw [if_neg (nI_nlt (by omega) (by omega))]
        | rw [if_pos (nI_le (by omega) (by omega))]
        | rw [if_pos (nI_lt (by omega) (by omega))]
theorem c_doors {τ : kT} (hJ : J τ) {k : Nat} (hk : k < N (q_i τ 67) 8523) {post : Int32 → kT → Prop} (h : ∀ τ2, US τ τ2 → post (nI (opM (q_i τ 67) k (dN (q_i τ 67)))) τ2) : T_X10_doorsThatOpen (nI k) τ post := by
  obtain ⟨nd, hnd, d1, d2, d3⟩ := hJ.nd
  intro v1 h1
  have hdN : dN (q_i τ 67) ≤ 31 ∧ dN (q_i τ 67) ≤ nd := by unfold dN; rw [d3]; split <;> omega
  have h1 : v1 = nI (dN (q_i τ 67)) := by
    rw [h1, d1, show (31 : Int32) = nI 31 from rfl, s_min (by omega) (by decide)]
    unfold dN
    rw [d3]
  rw [h1]
  generalize hdn : dN (q_i τ 67) = n at *
  have key : ∀ m d τ2, d + m = n → US τ τ2 → L_X10_doorsThatOpen_18 (nI k) (nI n) (fun v13 v14 τ15 => post v13 τ15) post (m + 1) (nI (opM (q_i τ 67) k d)) (nI d) τ2 := by
    intro m
    induction m with
    | zero =>
      intro d τ2 hd hU
      have hd : d = n := by omega
      subst hd
      unfold L_X10_doorsThatOpen_18
      exact br_t (nI_le (Nat.le_refl _) (by omega)) (h τ2 hU)
    | succ m ih =>
      intro d τ2 hd hU
      have hJ2 := hU.J hJ
      have e67 : q_i τ2 67 = q_i τ 67 := hU.1 67 (by decide) (by decide) (by decide)
      obtain ⟨l1, hv⟩ := hJ2.lock (d := d) (by rw [e67, d3]; omega)
      unfold L_X10_doorsThatOpen_18
      refine br_f (nI_ge (by omega) (by omega)) (c_beginu (fun τ4 h4 => ⟨d, rfl, by omega, ?_⟩))
      rw [h4.1 19 (by decide) (by decide) (by decide), l1]
      refine c_tryu hJ2 h4 (by omega) (by rw [e67]; exact hk) hv (fun τ5 h5 => ?_)
      rw [e67] at h5 ⊢
      have hU5 : US τ τ5 := hU.trans h5.US
      refine ⟨fun q v9 h9 => ?_, fun q v10 h10 v11 h11 => ?_⟩
      · have q : ¬ (rwK (q_i τ 67) k (q_i τ 67 (4464 + d))).1 = 1 := fun y => q ((cC_1 (rwK_1 _ _ _)).mpr y)
        have e : opM (q_i τ 67) k (d + 1) = opM (q_i τ 67) k d := by
          show (if _ then _ else _) = _
          rw [if_neg q]
        rw [h9, show nI d + 1 = nI (d + 1) from nI_1 d, ← e]
        exact ih (d + 1) τ5 (by omega) hU5
      · have q := (cC_1 (rwK_1 _ _ _)).mp q
        have e : opM (q_i τ 67) k (d + 1) = opM (q_i τ 67) k d ||| 2 ^ d := by
          show (if _ then _ else _) = _
          rw [if_pos q]
        rw [h11, h10, show nI d + 1 = nI (d + 1) from nI_1 d, b_sh1 d (by omega), b_or, ← e]
        exact ih (d + 1) τ5 (by omega) hU5
  exact ⟨n + 1, key n 0 τ (by omega) ⟨fun _ _ _ _ => rfl, fun _ => rfl⟩⟩
/-! the reference's -/
def VS (τ τ2 : kT) : Prop := (∀ x, x ≠ 66 → q_i τ2 x = q_i τ x) ∧ (∀ k, k ≠ 7 → q_i τ2 66 k = q_i τ 66 k) ∧ (∀ x, q_l τ2 x = q_l τ x)
theorem VS.refl (τ : kT) : VS τ τ := ⟨fun _ _ => rfl, fun _ _ => rfl, fun _ => rfl⟩
theorem VS.trans {τ τ2 τ3 : kT} (h : VS τ τ2) (h2 : VS τ2 τ3) : VS τ τ3 := ⟨fun x n1 => (h2.1 x n1).trans (h.1 x n1), fun x n1 => (h2.2.1 x n1).trans (h.2.1 x n1), fun x => (h2.2.2 x).trans (h.2.2 x)⟩
theorem VS.J {τ τ2 : kT} (h : VS τ τ2) (hJ : J τ) : J τ2 := by
  obtain ⟨-, -, -, -, -, ⟨s3, s4, s5⟩, a7, a8, a9, -⟩ := id hJ
  have g := h.1
  have k := h.2.1
  exact hJ.keep ⟨fun x _ _ => g x (by omega), fun x _ _ => h.2.2 x, g 67 (by decide), g 68 (by decide)⟩ ⟨by rw [g 0 (by decide)], k 2 (by decide)⟩ (by rw [g 0 (by decide), k 3 (by decide), k 4 (by decide), k 5 (by decide)]; exact ⟨s3, s4, s5⟩) (by rw [g 39 (by decide), k 6 (by decide)]; exact a7) (by rw [g 45 (by decide), k 10 (by decide)]; exact a8) (by rw [g 40 (by decide), g 41 (by decide), k 9 (by decide), g 69 (by decide)]; exact a9) (by rw [g 65 (by decide)])
theorem r_would {τ : kT} (hJ : J τ) {k d : Nat} (hk : k < N (q_i τ 67) 8523) (hd : d < N (q_i τ 67) 8525) {post : Int32 → kT → Prop} (h1 : (rwK (q_i τ 67) k (q_i τ 67 (4464 + d))).1 = 1 → ∀ τ2, VS τ τ2 → post 1 τ2) (h0 : (rwK (q_i τ 67) k (q_i τ 67 (4464 + d))).1 ≠ 1 → ∀ τ2, VS τ τ2 → post 0 τ2) : T_X11_would (nI k) (nI d) τ post := by
  have hd40 : d < 40 := Nat.lt_of_lt_of_le hd hJ.1.bnd.2.2.2.1
  obtain ⟨-, -, -, -, -, -, -, -, ⟨t1, t2, t3, -⟩, -⟩ := id hJ
  obtain ⟨l1, hv⟩ := hJ.lock hd
  refine ⟨4464 + d, nI_add 4464 d, by omega, ?_⟩
  refine r_tried (τ := τ) (b := 0) (n := N (q_i τ 40) 1) (f := q_i τ 69) (sp := q_i τ 66 7) hJ.1 ⟨fun _ _ _ => rfl, fun _ => rfl, fun _ _ _ => rfl, t1.trans t2, rfl, rfl⟩ (by omega) hk hv (fun τ3 h3 => ?_)
  have hV : VS τ τ3 := by
    obtain ⟨r1, r2, r3, r4, r5, r6⟩ := h3
    have e0 : ∀ l, lt 0 l = [] := fun l => by unfold lt; rw [if_pos rfl]
    rw [e0] at r4 r5
    refine ⟨fun x n1 => ?_, fun k n7 => ?_, r2⟩
    · by_cases n2 : x = 69
      · rw [n2]; exact r5
      · exact r1 x n1 n2
    · by_cases n9 : k = 9
      · rw [n9, r4]; exact (t1.trans t2).symm
      · exact r3 k n9 n7
  refine ⟨fun q => h0 (fun y => q ((cR_1 (rwK_1 _ _ _)).mpr y)) τ3 hV, fun q => h1 ((cR_1 (rwK_1 _ _ _)).mp q) τ3 hV⟩
theorem r_opened {τ : kT} (hJ : J τ) {k : Nat} (hk : k < N (q_i τ 67) 8523) {post : Int32 → kT → Prop} (h : ∀ τ2, VS τ τ2 → post (nI (opM (q_i τ 67) k (dN (q_i τ 67)))) τ2) : T_X11_opened (nI k) τ post := by
  obtain ⟨nd, hnd, d1, d2, d3⟩ := hJ.nd
  have hdN : dN (q_i τ 67) ≤ 31 ∧ dN (q_i τ 67) ≤ nd ∧ (dN (q_i τ 67) = 31 ∨ dN (q_i τ 67) = nd) := by unfold dN; rw [d3]; split <;> omega
  generalize hdn : dN (q_i τ 67) = n at *
  have key : ∀ m d τ2, d + m = n → VS τ τ2 → L_X11_opened_4 (nI k) (fun v11 v12 τ13 => post v11 τ13) post (m + 1) (nI (opM (q_i τ 67) k d)) (nI d) τ2 := by
    intro m
    induction m with
    | zero =>
      intro d τ2 hd hU
      have hd : d = n := by omega
      subst hd
      unfold L_X11_opened_4
      by_cases h31 : d = 31
      · exact br_t (by rw [h31]; decide) (h τ2 hU)
      · refine br_f (nI_ge (b := 31) (by omega) (by decide)) (br_t ?_ (h τ2 hU))
        rw [hU.1 67 (by decide), d2]
        exact nI_le (by omega) (by omega)
    | succ m ih =>
      intro d τ2 hd hU
      have hJ2 := hU.J hJ
      have e67 : q_i τ2 67 = q_i τ 67 := hU.1 67 (by decide)
      unfold L_X11_opened_4
      refine br_f (nI_ge (b := 31) (by omega) (by decide)) (br_f (by rw [e67, d2]; exact nI_ge (by omega) (by omega)) ?_)
      refine r_would hJ2 (by rw [e67]; exact hk) (by rw [e67, d3]; omega) (fun q τ3 h3 => br_f (by decide) (fun v8 h8 v9 h9 => ?_)) (fun q τ3 h3 => br_t rfl (fun v8 h8 v9 h9 => ?_))
      · rw [e67] at q
        have e : opM (q_i τ 67) k (d + 1) = opM (q_i τ 67) k d ||| 2 ^ d := by
          show (if _ then _ else _) = _
          rw [if_pos q]
        rw [h9, h8, show nI d + 1 = nI (d + 1) from nI_1 d, b_sh1 d (by omega), b_or, ← e]
        exact ih (d + 1) τ3 (by omega) (hU.trans h3)
      · rw [e67] at q
        have e : opM (q_i τ 67) k (d + 1) = opM (q_i τ 67) k d := by
          show (if _ then _ else _) = _
          rw [if_neg q]
        rw [h9, h8, show nI d + 1 = nI (d + 1) from nI_1 d, show (0 : Int32) = nI 0 from rfl, b_or, Nat.or_zero, ← e]
        exact ih (d + 1) τ3 (by omega) (hU.trans h3)
  exact ⟨n + 1, key n 0 τ (by omega) (VS.refl τ)⟩
theorem k_endangered_op : K_endangered J := by
  intro a τ hJ
  obtain ⟨nk, hnk, k1, k2, k3⟩ := hJ.nk
  unfold T_X10_endangered T_X11_endangered
  by_cases h : inn a nk
  · obtain ⟨k, hk, rfl⟩ := h
    have hkN : k < N (q_i τ 67) 8523 := by rw [k3]; exact hk
    refine s_X5_has_t k1 (by omega) hk (br_f (by decide) (c_doors hJ hkN (fun τ2 hU => ?_)))
    have e67 : q_i τ2 67 = q_i τ 67 := hU.1 67 (by decide) (by decide) (by decide)
    refine s_X11_isKey_t (by rw [e67]; exact k2) (by omega) hk (br_f (by decide) (r_opened (hU.J hJ) (by rw [e67]; exact hkN) (fun τ3 hV => ⟨by rw [e67], hV.J (hU.J hJ)⟩)))
  · refine s_X5_has_f k1 (by omega) h (br_t rfl ?_)
    exact s_X11_isKey_f k2 (by omega) h (br_t rfl ⟨rfl, hJ⟩)
/-! closed -/
theorem c_areDoors {τ : kT} {a : Int32} {nd : Nat} (d1 : q_i τ 1 4 = nI nd) {post : Int32 → kT → Prop} (h1 : (0 ≤ a ∧ ((31 : Int32) ≤ nI nd ∨ a >>> (nI nd &&& 31) = 0)) → post 1 τ) (h0 : ¬ (0 ≤ a ∧ ((31 : Int32) ≤ nI nd ∨ a >>> (nI nd &&& 31) = 0)) → post 0 τ) : T_X10_areDoors a τ post := by
  unfold T_X10_areDoors
  rw [d1]
  exact ⟨fun q => ⟨fun q2 => h1 ⟨q, Or.inl q2⟩, fun q2 => ⟨fun q3 => h0 (fun z => z.2.elim q2 q3), fun q3 => h1 ⟨q, Or.inr q3⟩⟩⟩, fun q => h0 (fun z => q z.1)⟩
theorem r_areDoors {τ : kT} {a : Int32} {nd : Nat} (d1 : q_i τ 67 8525 = nI nd) {post : Int32 → kT → Prop} (h1 : (0 ≤ a ∧ ((31 : Int32) ≤ nI nd ∨ a >>> (nI nd &&& 31) = 0)) → post 1 τ) (h0 : ¬ (0 ≤ a ∧ ((31 : Int32) ≤ nI nd ∨ a >>> (nI nd &&& 31) = 0)) → post 0 τ) : T_X11_areDoors a τ post := by
  unfold T_X11_areDoors
  rw [d1]
  have e : a < 0 ↔ ¬ 0 ≤ a := by
    rw [i_lt, i_le]
    have : (0 : Int32).toInt = 0 := rfl
    omega
  exact ⟨fun q => h0 (fun z => e.mp q z.1), fun q => have q : 0 ≤ a := Decidable.not_not.mp (fun z => q (e.mpr z)); ⟨fun q2 => h1 ⟨q, Or.inl q2⟩, fun q2 => ⟨fun q3 => h0 (fun z => z.2.elim q2 q3), fun q3 => h1 ⟨q, Or.inr q3⟩⟩⟩⟩
def orI (s : Nat → Int32) : Nat → Int32
  | 0 => 0
  | k + 1 => orI s k ||| nI (opM s k (dN s))
def kN (s : Nat → Int32) : Nat := if N s 8523 < 14 then N s 8523 else 14
theorem b_cl (a O r : Int32) : (a &&& (O ^^^ -1)) &&& ((r &&& a) ^^^ -1) = a &&& ((O ||| r) ^^^ -1) := by
  apply Int32.toBitVec_inj.mp
  have e1 : (-1 : Int32).toBitVec = BitVec.allOnes 32 := by decide
  rw [Int32.toBitVec_and, Int32.toBitVec_and, Int32.toBitVec_and, Int32.toBitVec_xor, Int32.toBitVec_xor, Int32.toBitVec_xor, Int32.toBitVec_and, Int32.toBitVec_or, e1]
  apply BitVec.eq_of_getLsbD_eq
  intro i hi
  simp only [BitVec.getLsbD_and, BitVec.getLsbD_xor, BitVec.getLsbD_or, BitVec.getLsbD_allOnes, hi, decide_true]
  cases a.toBitVec.getLsbD i <;> cases O.toBitVec.getLsbD i <;> cases r.toBitVec.getLsbD i <;> rfl
def VT (τ τ2 : kT) : Prop := (∀ x, x ≠ 66 → x ≠ 78 → x ≠ 79 → q_i τ2 x = q_i τ x) ∧ (∀ k, k ≠ 7 → q_i τ2 66 k = q_i τ 66 k) ∧ (∀ x, q_l τ2 x = q_l τ x)
theorem VT.refl (τ : kT) : VT τ τ := ⟨fun _ _ _ _ => rfl, fun _ _ => rfl, fun _ => rfl⟩
theorem VT.J {τ τ2 : kT} (h : VT τ τ2) (hJ : J τ) : J τ2 := by
  obtain ⟨-, -, -, -, -, ⟨s3, s4, s5⟩, a7, a8, a9, -⟩ := id hJ
  have g : ∀ x, x < 66 ∨ (66 < x ∧ x < 78) → q_i τ2 x = q_i τ x := fun x hx => h.1 x (by omega) (by omega) (by omega)
  have k := h.2.1
  exact hJ.keep ⟨fun x _ _ => g x (by omega), fun x _ _ => h.2.2 x, g 67 (by decide), g 68 (by decide)⟩ ⟨by rw [g 0 (by decide)], k 2 (by decide)⟩ (by rw [g 0 (by decide), k 3 (by decide), k 4 (by decide), k 5 (by decide)]; exact ⟨s3, s4, s5⟩) (by rw [g 39 (by decide), k 6 (by decide)]; exact a7) (by rw [g 45 (by decide), k 10 (by decide)]; exact a8) (by rw [g 40 (by decide), g 41 (by decide), k 9 (by decide), g 69 (by decide)]; exact a9) (by rw [g 65 (by decide)])
theorem r_first {τ : kT} (hJ : J τ) {a : Int32} {post : Int32 → kT → Prop} (h : ∀ τ2, VT τ τ2 → (∀ j, j < kN (q_i τ 67) → q_i τ2 78 j = nI (opM (q_i τ 67) j (dN (q_i τ 67))) &&& a) → post (nI (kN (q_i τ 67))) τ2) : T_X11_first a τ post := by
  obtain ⟨nk, hnk, k1, k2, k3⟩ := hJ.nk
  have hkN : kN (q_i τ 67) ≤ 14 ∧ kN (q_i τ 67) ≤ nk ∧ (14 ≤ nk → kN (q_i τ 67) = 14) ∧ (¬ 14 ≤ nk → kN (q_i τ 67) = nk) := by unfold kN; rw [k3]; split <;> omega
  generalize hkn : kN (q_i τ 67) = n at *
  have key : ∀ (K : Int32 → kT → Prop), (∀ x τ2, K x τ2 ↔ post (nI n) τ2) → ∀ m k τ2, k + m = n → VT τ τ2 → (∀ j, j < k → q_i τ2 78 j = nI (opM (q_i τ 67) j (dN (q_i τ 67))) &&& a) → L_X11_first_29 a (nI n) K post (m + 1) (nI k) τ2 := by
    intro K hK m
    induction m with
    | zero =>
      intro k τ2 hk hU hq
      have hk : k = n := by omega
      subst hk
      unfold L_X11_first_29
      exact br_t (nI_le (Nat.le_refl _) (by omega)) ((hK _ _).mpr (h τ2 hU hq))
    | succ m ih =>
      intro k τ2 hk hU hq
      have hJ2 := hU.J hJ
      have e67 : q_i τ2 67 = q_i τ 67 := hU.1 67 (by decide) (by decide) (by decide)
      unfold L_X11_first_29
      refine br_f (nI_ge (by omega) (by omega)) (r_opened hJ2 (by rw [e67, k3]; omega) (fun τ4 h4 => ⟨k, rfl, by omega, fun τ6 h6 v7 h7 => ?_⟩))
      rw [e67] at h6
      rw [h7, show nI k + 1 = nI (k + 1) from nI_1 k]
      refine ih (k + 1) τ6 (by omega) ⟨fun x n1 n2 n3 => ?_, fun j hj => ?_, fun x => ?_⟩ (fun j hj => ?_)
      · rw [h6, q_i_si, if_neg n2, h4.1 x n1]; exact hU.1 x n1 n2 n3
      · rw [h6]; show q_i τ4 66 j = _; rw [h4.2.1 j hj]; exact hU.2.1 j hj
      · rw [h6]; show q_l τ4 x = _; rw [h4.2.2 x]; exact hU.2.2 x
      · rw [h6, q_i_si, if_pos rfl, upd_at]
        by_cases e : j = k
        · rw [if_pos e, e]
        · rw [if_neg e, h4.1 78 (by decide)]; exact hq j (by omega)
  unfold T_X11_first
  rw [k2]
  by_cases h14 : 14 ≤ nk
  · refine br_t (nI_le (a := 14) h14 (by omega)) ⟨n + 1, ?_⟩
    have e : (14 : Int32) = nI n := by rw [hkN.2.2.1 h14]; rfl
    rw [e]
    exact key _ (fun _ _ => Iff.rfl) n 0 τ (by omega) (VT.refl τ) (fun j hj => absurd hj (by omega))
  · refine br_f (nI_ge (b := 14) (by omega) (by decide)) (fun v11 h11 => ⟨n + 1, ?_⟩)
    have e : v11 = nI n := by rw [h11, hkN.2.2.2 h14]
    rw [e]
    exact key _ (fun _ _ => Iff.rfl) n 0 τ (by omega) (VT.refl τ) (fun j hj => absurd hj (by omega))
theorem k_closed_op : K_closed J := by
  intro a τ hJ
  obtain ⟨nk, hnk, k1, k2, k3⟩ := hJ.nk
  obtain ⟨nd, hnd, d1, d2, d3⟩ := hJ.nd
  unfold T_X10_closed
  refine c_areDoors d1 (fun q => bn_t (by decide) (fun v4 h4 => ?_)) (fun q => bn_f rfl (by unfold T_X11_closed; exact r_areDoors d2 (fun z => absurd z q) (fun _ => bn_f rfl ⟨rfl, hJ⟩)))
  have hkN : kN (q_i τ 67) ≤ 14 ∧ kN (q_i τ 67) ≤ nk := by unfold kN; rw [k3]; split <;> omega
  have h4 : v4 = nI (kN (q_i τ 67)) := by
    rw [h4, k1, show (14 : Int32) = nI 14 from rfl, s_min (by omega) (by decide)]
    unfold kN
    rw [k3]
  rw [h4]
  generalize hkn : kN (q_i τ 67) = n at *
  have key : ∀ (P : Int32 → kT → Prop), (∀ τ2, US τ τ2 → P (a &&& (orI (q_i τ 67) n ^^^ (-1 : Int32))) τ2) → ∀ m k τ2, k + m = n → US τ τ2 → L_X10_closed_32 a (nI n) (fun v11 v12 τ13 => P (a &&& (v11 ^^^ (-1 : Int32))) τ13) P (m + 1) (orI (q_i τ 67) k) (nI k) τ2 := by
    intro P hP m
    induction m with
    | zero =>
      intro k τ2 hk hU
      have hk : k = n := by omega
      subst hk
      unfold L_X10_closed_32
      exact br_t (nI_le (Nat.le_refl _) (by omega)) (hP τ2 hU)
    | succ m ih =>
      intro k τ2 hk hU
      have e67 : q_i τ2 67 = q_i τ 67 := hU.1 67 (by decide) (by decide) (by decide)
      unfold L_X10_closed_32
      refine br_f (nI_ge (by omega) (by omega)) (c_doors (hU.J hJ) (by rw [e67, k3]; omega) (fun τ4 h4 v8 h8 v9 h9 => ?_))
      rw [e67] at h8
      rw [h9, h8, show nI k + 1 = nI (k + 1) from nI_1 k]
      exact ih (k + 1) τ4 (by omega) (hU.trans h4)
  refine ⟨n + 1, key (fun r1 τ1 => T_X11_closed a τ1 (fun r2 τ2 => r1 = r2 ∧ J τ2)) (fun τ2 hU => ?_) n 0 τ (by omega) ⟨fun _ _ _ _ => rfl, fun _ => rfl⟩⟩
  have e67 : q_i τ2 67 = q_i τ 67 := hU.1 67 (by decide) (by decide) (by decide)
  unfold T_X11_closed
  refine r_areDoors (by rw [e67]; exact d2) (fun _ => bn_t (by decide) (r_first (hU.J hJ) (fun τ3 h3 hq => ?_))) (fun z => absurd q z)
  rw [e67, hkn] at hq
  rw [e67, hkn]
  have key2 : ∀ m k, k + m = n → L_X11_closed_22 a (nI n) (fun v11 v12 τ13 => a &&& (orI (q_i τ 67) n ^^^ (-1 : Int32)) = v11 ∧ J τ13) (fun r2 τ2 => a &&& (orI (q_i τ 67) n ^^^ (-1 : Int32)) = r2 ∧ J τ2) (m + 1) (a &&& (orI (q_i τ 67) k ^^^ (-1 : Int32))) (nI k) τ3 := by
    intro m
    induction m with
    | zero =>
      intro k hk
      have hk : k = n := by omega
      subst hk
      unfold L_X11_closed_22
      exact br_t (nI_le (Nat.le_refl _) (by omega)) ⟨rfl, h3.J (hU.J hJ)⟩
    | succ m ih =>
      intro k hk
      unfold L_X11_closed_22
      refine br_f (nI_ge (by omega) (by omega)) ⟨k, rfl, by omega, fun v8 h8 v9 h9 => ?_⟩
      rw [hq k (by omega), b_cl] at h8
      rw [h9, h8, show nI k + 1 = nI (k + 1) from nI_1 k]
      exact ih (k + 1) (by omega)
  have e0 : a &&& (orI (q_i τ 67) 0 ^^^ (-1 : Int32)) = a := by
    show a &&& ((0 : Int32) ^^^ (-1 : Int32)) = a
    rw [show (0 : Int32) ^^^ (-1 : Int32) = -1 by decide]
    exact Int32.and_neg_one
  have := key2 n 0 (by omega)
  rw [e0] at this
  exact ⟨n + 1, this⟩
