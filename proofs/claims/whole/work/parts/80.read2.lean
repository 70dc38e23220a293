/-! ===== the keys are read ===== -/
theorem am_o {τ : kT} (hJ : J τ) {y d : Nat} (hy : y < N (q_i τ 67) 8523) (hd : d ≤ 6) : (∃ m, m < 2 ^ 31 ∧ (q_l τ 13 y &&& Int64.ofNat (2 ^ d - 1)).toInt32 = nI m ∧ ∀ j, j < d → m.testBit j = opS (q_i τ 67) y j) ∧ (∃ m, m < 2 ^ 31 ∧ (q_l τ 14 y &&& Int64.ofNat (2 ^ d - 1)).toInt32 = nI m ∧ ∀ j, j < d → m.testBit j = decide (q_i τ 67 (4504 + 40 * y + j) = 2)) := by
  have tb : ∀ {a : Bool} {P : Prop} (hP : Decidable P), (a = true ↔ P) → a = @decide P hP := by
    intro a P hP h
    cases a with
    | true => exact (decide_eq_true (h.mp rfl)).symm
    | false => exact (decide_eq_false (fun y => absurd (h.mpr y) (by decide))).symm
  obtain ⟨m1, a1, a2, a3⟩ := am (q_l τ 13 y) d hd
  obtain ⟨m2, b1, b2, b3⟩ := am (q_l τ 14 y) d hd
  refine ⟨⟨m1, by omega, a2, fun j hj => ?_⟩, ⟨m2, by omega, b2, fun j hj => ?_⟩⟩
  · rw [a3 j hj]
    exact tb _ (wish_o hJ hy (by omega)).1
  · rw [b3 j hj]
    exact tb _ (wish_o hJ hy (by omega)).2
theorem c_readKeys {τ τa : kT} {k d lo : Nat} {lv : Int32} (hJ : J τ) (hF : FR τ τa) (hk : k ≤ 6) (hkn : k ≤ N (q_i τ 67) 8523) (hd : d ≤ 6) (hl1 : lo < k → lv = nI lo) (hl2 : ¬ lo < k → lv = -1) (e1 : q_i τa 45 1 = nI k) (e2 : q_i τa 45 2 = nI d) {post : kT → Prop} (h : ∀ τ2, FR τ τ2 → (∀ x, x ≠ 45 → x ≠ 46 → x ≠ 47 → x ≠ 48 → q_i τ2 x = q_i τa x) → (∀ i, i ≠ 6 → i ≠ 7 → i ≠ 10 → q_i τ2 45 i = q_i τa 45 i) → q_i τ2 45 7 = -1 → q_i τ2 45 6 = nI (cT lo k) → (∃ od, od < 2 ^ 31 ∧ q_i τ2 45 10 = nI od ∧ ∀ j, j < d → (od.testBit j = true ↔ ∃ t, t < cT lo k ∧ opS (q_i τ 67) (key lo t) j = true)) → (∀ t, t < cT lo k → q_i τ2 46 t = nI (key lo t)) → (∀ t, t < cT lo k → ∃ om, om < 2 ^ 31 ∧ q_i τ2 47 (key lo t) = nI om ∧ ∀ j, j < d → om.testBit j = opS (q_i τ 67) (key lo t) j) → (∀ y, y < k → y ≠ lo → ∃ m, m < 2 ^ 31 ∧ q_i τ2 48 y = nI m ∧ ∀ j, j < d → m.testBit j = decide (q_i τ 67 (4504 + 40 * y + j) = 2)) → post τ2) : T_X3_readKeys lv τa post := by
  have hb := hJ.1.bnd.2.1
  intro v1 h1 τ2 h2 τ3 h3 τ4 h4
  rw [e2, asked_ok d hd] at h1
  subst h1
  have loop : ∀ m y τ5 od, y + m = k → FR τ τ5 → (∀ x, x ≠ 45 → x ≠ 46 → x ≠ 47 → x ≠ 48 → q_i τ5 x = q_i τa x) → (∀ i, i ≠ 6 → i ≠ 7 → i ≠ 10 → q_i τ5 45 i = q_i τa 45 i) → q_i τ5 45 7 = -1 → q_i τ5 45 6 = nI (cT lo y) → od < 2 ^ 31 → q_i τ5 45 10 = nI od → (∀ j, j < d → (od.testBit j = true ↔ ∃ t, t < cT lo y ∧ opS (q_i τ 67) (key lo t) j = true)) → (∀ t, t < cT lo y → q_i τ5 46 t = nI (key lo t)) → (∀ t, t < cT lo y → ∃ om, om < 2 ^ 31 ∧ q_i τ5 47 (key lo t) = nI om ∧ ∀ j, j < d → om.testBit j = opS (q_i τ 67) (key lo t) j) → (∀ y', y' < y → y' ≠ lo → ∃ m, m < 2 ^ 31 ∧ q_i τ5 48 y' = nI m ∧ ∀ j, j < d → m.testBit j = decide (q_i τ 67 (4504 + 40 * y' + j) = 2)) → L_X3_readKeys_27 lv (Int64.ofNat (2 ^ d - 1)) (fun v21 τ22 => post τ22) post (m + 1) (nI y) τ5 := by
    intro m
    induction m with
    | zero =>
      intro y τ5 od hy hF5 hx hi p7 p6 o1 o2 o3 q46 q47 q48
      have hy : y = k := by omega
      subst hy
      unfold L_X3_readKeys_27
      exact br_t (by rw [hi 1 (by decide) (by decide) (by decide), e1]; exact nI_le (Nat.le_refl _) (by omega)) (h τ5 hF5 hx hi p7 p6 ⟨od, o1, o2, o3⟩ q46 q47 q48)
    | succ m ih =>
      intro y τ5 od hy hF5 hx hi p7 p6 o1 o2 o3 q46 q47 q48
      have hyk : y < k := by omega
      have cle : cT lo y ≤ y := by unfold cT; split <;> omega
      unfold L_X3_readKeys_27
      refine br_f (by rw [hi 1 (by decide) (by decide) (by decide), e1]; exact nI_ge (by omega) (by omega)) ?_
      by_cases ey : y = lo
      · have : nI y = lv := by rw [hl1 (by omega), ey]
        refine bn_f this (fun v19 h19 => ?_)
        rw [h19, show nI y + 1 = nI (y + 1) from nI_1 y]
        have ec : cT lo (y + 1) = cT lo y := by rw [ey]; exact cT_l lo
        refine ih (y + 1) τ5 od (by omega) hF5 hx hi p7 (by rw [ec]; exact p6) o1 o2 (by rw [ec]; exact o3) (by rw [ec]; exact q46) (by rw [ec]; exact q47) (fun y' hy' hn' => q48 y' (by omega) hn')
      · have : ¬ nI y = lv := by
          by_cases q : lo < k
          · rw [hl1 q]; exact fun w => ey ((nI_eq (by omega) (by omega)).mp w)
          · rw [hl2 q]; exact nI_m1 (by omega)
        obtain ⟨ec, ek⟩ := cT_s (lo := lo) (y := y) ey
        obtain ⟨⟨om, om1, om2, om3⟩, ⟨nm, nm1, nm2, nm3⟩⟩ := am_o hJ (y := y) (d := d) (by omega) hd
        refine bn_t this ⟨y, rfl, by omega, y, rfl, by omega, fun τ9 h9 => ⟨y, rfl, by omega, y, rfl, by omega, fun τ12 h12 => ⟨y, rfl, by omega, fun τ14 h14 => ?_⟩⟩⟩
        rw [hF5.2 13, om2] at h9
        have e914 : q_l τ9 14 = q_l τ 14 := by rw [h9]; exact hF5.2 14
        rw [e914, nm2] at h12
        have e1247 : q_i τ12 47 y = nI om := by rw [h12, h9]; show upd (q_i τ5 47) y (nI om) y = _; rw [upd_eq]
        have e1210 : q_i τ12 45 10 = nI od := by rw [h12, h9]; exact o2
        rw [e1210, e1247, b_or] at h14
        have e146 : q_i τ14 45 6 = nI (cT lo y) := by rw [h14, h12, h9]; exact p6
        refine ⟨cT lo y, e146, by omega, fun τ16 h16 τ17 h17 v18 h18 => ?_⟩
        have e166 : q_i τ16 45 6 = nI (cT lo y) := by rw [h16]; exact e146
        rw [e166] at h17
        have h17 : τ17 = q_si τ16 45 6 (nI (cT lo y + 1)) := by rw [h17]; exact congrArg (q_si τ16 45 6) (nI_1 _)
        rw [h18, show nI y + 1 = nI (y + 1) from nI_1 y]
        have w46 : q_i τ17 46 = upd (q_i τ5 46) (cT lo y) (nI y) := by rw [h17, h16, h14, h12, h9]; rfl
        have w47 : q_i τ17 47 = upd (q_i τ5 47) y (nI om) := by rw [h17, h16, h14, h12, h9]; rfl
        have w48 : q_i τ17 48 = upd (q_i τ5 48) y (nI nm) := by rw [h17, h16, h14, h12, h9]; rfl
        have w45 : q_i τ17 45 = upd (upd (q_i τ5 45) 10 (nI (od ||| om))) 6 (nI (cT lo y + 1)) := by rw [h17, h16, h14, h12, h9]; rfl
        have wx : ∀ x, x ≠ 45 → x ≠ 46 → x ≠ 47 → x ≠ 48 → q_i τ17 x = q_i τ5 x := fun x n1 n2 n3 n4 => by
          rw [h17, q_i_si, if_neg n1, h16, q_i_si, if_neg n2, h14, q_i_si, if_neg n1, h12, q_i_si, if_neg n4, h9, q_i_si, if_neg n3]
        have wl : ∀ x, q_l τ17 x = q_l τ5 x := fun x => by rw [h17, h16, h14, h12, h9]; rfl
        refine ih (y + 1) τ17 (od ||| om) (by omega) ⟨fun x hx' => by rw [wx x (by omega) (by omega) (by omega) (by omega)]; exact hF5.1 x hx', fun x => by rw [wl]; exact hF5.2 x⟩ (fun x n1 n2 n3 n4 => by rw [wx x n1 n2 n3 n4]; exact hx x n1 n2 n3 n4) (fun i n6 n7 n10 => by rw [w45, upd_ne n6, upd_ne n10]; exact hi i n6 n7 n10) (by rw [w45, upd_ne (by decide), upd_ne (by decide)]; exact p7) (by rw [w45, upd_eq, ec]) (Nat.or_lt_two_pow o1 om1) (by rw [w45, upd_ne (by decide), upd_eq]) (fun j hj => ?_) (fun t ht => ?_) (fun t ht => ?_) (fun y' hy' hn' => ?_)
        · rw [Nat.testBit_or, Bool.or_eq_true, o3 j hj, om3 j hj, ec]
          constructor
          · rintro (⟨t, t1, t2⟩ | w)
            · exact ⟨t, by omega, t2⟩
            · exact ⟨cT lo y, by omega, by rw [ek]; exact w⟩
          · rintro ⟨t, t1, t2⟩
            by_cases e : t = cT lo y
            · rw [e, ek] at t2; exact Or.inr t2
            · exact Or.inl ⟨t, by omega, t2⟩
        · rw [ec] at ht
          rw [w46, upd_at]
          by_cases e : t = cT lo y
          · rw [if_pos e, e, ek]
          · rw [if_neg e]; exact q46 t (by omega)
        · rw [ec] at ht
          by_cases e : t = cT lo y
          · rw [e, ek]
            exact ⟨om, om1, by rw [w47, upd_eq], om3⟩
          · have kt := key_cT (lo := lo) (t := t) (y := y) (by omega)
            obtain ⟨o, u1, u2, u3⟩ := q47 t (by omega)
            exact ⟨o, u1, by rw [w47, upd_ne (by omega)]; exact u2, u3⟩
        · by_cases e : y' = y
          · rw [e]
            exact ⟨nm, nm1, by rw [w48, upd_eq], nm3⟩
          · obtain ⟨o, u1, u2, u3⟩ := q48 y' (by omega) hn'
            exact ⟨o, u1, by rw [w48, upd_ne e]; exact u2, u3⟩
  have w45 : q_i τ4 45 = upd (upd (upd (q_i τa 45) 7 (-1)) 6 0) 10 0 := by rw [h4, h3, h2]; rfl
  have wx : ∀ x, x ≠ 45 → q_i τ4 x = q_i τa x := fun x n1 => by rw [h4, q_i_si, if_neg n1, h3, q_i_si, if_neg n1, h2, q_i_si, if_neg n1]
  have wl : ∀ x, q_l τ4 x = q_l τa x := fun x => by rw [h4, h3, h2]; rfl
  have c0 : cT lo 0 = 0 := by unfold cT; rw [if_neg (by omega)]
  refine ⟨k + 1, loop k 0 τ4 0 (by omega) ⟨fun x hx => by rw [wx x (by omega)]; exact hF.1 x hx, fun x => by rw [wl]; exact hF.2 x⟩ (fun x n1 _ _ _ => wx x n1) (fun i n6 n7 n10 => by rw [w45, upd_ne n10, upd_ne n6, upd_ne n7]) (by rw [w45, upd_ne (by decide), upd_ne (by decide), upd_eq]) (by rw [w45, upd_ne (by decide), upd_eq, c0]; rfl) (by decide) (by rw [w45, upd_eq]; rfl) (fun j hj => ?_) (fun t ht => ?_) (fun t ht => ?_) (fun y' hy' => absurd hy' (by omega))⟩
  · rw [Nat.zero_testBit, c0]
    exact ⟨fun w => absurd w (by decide), fun ⟨t, t1, _⟩ => absurd t1 (by omega)⟩
  · rw [c0] at ht; exact absurd ht (by omega)
  · rw [c0] at ht; exact absurd ht (by omega)
/-! the doors: what keeps from cutting -/
noncomputable def dr (s : Nat → Int32) (n : Nat) : Nat → Nat → Nat
  | 0, _ => 0
  | m + 1, i => if s (4464 + i) = -1 then 1 else if s (cyS s i) = 4 then 3 else if s (100 + cyS s i) = -1 then 1 else cif (s (100 + cyS s i) ≠ nI n ∨ ∃ i', i' < i ∧ s (4464 + i') = s (4464 + i)) 9 (dr s n m (i + 1))
def cD (c : Nat) : Int32 := if c = 0 then 0 else if c = 1 then -11 else if c = 3 then -13 else -3
def rD (c : Nat) : Int32 := if c = 0 then 0 else if c = 1 then 1 else if c = 3 then 3 else -3
theorem dr_v (s : Nat → Int32) (n : Nat) : ∀ m i, dr s n m i = 0 ∨ dr s n m i = 1 ∨ dr s n m i = 3 ∨ dr s n m i = 9
  | 0, _ => Or.inl rfl
  | m + 1, i => by
    unfold dr
    split
    · exact Or.inr (Or.inl rfl)
    · split
      · exact Or.inr (Or.inr (Or.inl rfl))
      · split
        · exact Or.inr (Or.inl rfl)
        · by_cases q : (s (100 + cyS s i) ≠ nI n ∨ ∃ i', i' < i ∧ s (4464 + i') = s (4464 + i))
          · rw [cif_t q]; exact Or.inr (Or.inr (Or.inr rfl))
          · rw [cif_f q]; exact dr_v s n m (i + 1)
theorem dr_ok {s : Nat → Int32} (hI : InvS s) {n : Nat} : ∀ m i, i + m ≤ N s 8525 → dr s n m i = 0 → ∀ j, i ≤ j → j < i + m → s (4464 + j) = nI (cyS s j) ∧ cyS s j < N s 8522 ∧ s (cyS s j) ≠ 4 ∧ s (100 + cyS s j) = nI n ∧ ∀ i', i' < j → s (4464 + i') ≠ s (4464 + j)
  | 0, i, _, _ => fun j h1 h2 => absurd h2 (by omega)
  | m + 1, i, hi, h => by
    unfold dr at h
    by_cases q1 : s (4464 + i) = -1
    · rw [if_pos q1] at h; exact absurd h (by decide)
    rw [if_neg q1] at h
    by_cases q2 : s (cyS s i) = 4
    · rw [if_pos q2] at h; exact absurd h (by decide)
    rw [if_neg q2] at h
    by_cases q3 : s (100 + cyS s i) = -1
    · rw [if_pos q3] at h; exact absurd h (by decide)
    rw [if_neg q3] at h
    by_cases q4 : (s (100 + cyS s i) ≠ nI n ∨ ∃ i', i' < i ∧ s (4464 + i') = s (4464 + i))
    · rw [cif_t q4] at h; exact absurd h (by decide)
    rw [cif_f q4] at h
    intro j h1 h2
    by_cases e : j = i
    · subst e
      have hb := hI.bnd.1
      obtain ⟨c, hc, ec⟩ := (hI.2.2.2.2.2.2.2.2.2.2.2.2.2.2.2 j (by omega)).resolve_left q1
      have hc : c < N s 8522 := hc
      have ey : cyS s j = c := by unfold cyS N; rw [ec, nI_clamp (by omega)]
      refine ⟨by rw [ey]; exact ec, by rw [ey]; exact hc, q2, Decidable.not_not.mp (fun w => q4 (Or.inl w)), fun i' hi' w => q4 (Or.inr ⟨i', hi', w⟩)⟩
    · exact dr_ok hI m (i + 1) (by omega) h j (by omega) (by omega)
theorem DOK_of {s : Nat → Int32} (hI : InvS s) {d n : Nat} (hd : d ≤ N s 8525) (h : dr s n d 0 = 0) : DOK s d n := by
  intro j hj
  have a := dr_ok hI d 0 (by omega) h
  obtain ⟨p1, p2, p3, p4, p5⟩ := a j (by omega) (by omega)
  refine ⟨p1, p2, p3, p4, fun i hi w => p5 i hi ?_⟩
  rw [p1, (a i (by omega) (by omega)).1, w]
theorem c_ahead {τ : kT} {v : Int32} {i : Nat} (hi : i ≤ 6) {post : Int32 → kT → Prop} (h1 : (∃ i', i' < i ∧ q_i τ 19 i' = v) → post 1 τ) (h0 : ¬ (∃ i', i' < i ∧ q_i τ 19 i' = v) → post 0 τ) : T_X10_isFittedAhead v (nI i) τ post := by
  have loop : ∀ m t, t + m = i → (∀ t', t' < t → q_i τ 19 t' ≠ v) → L_X10_isFittedAhead_2 v (nI i) (fun v6 τ7 => post (0 : Int32) τ7) post (m + 1) (nI t) τ := by
    intro m
    induction m with
    | zero =>
      intro t ht hs
      have ht : t = i := by omega
      subst ht
      unfold L_X10_isFittedAhead_2
      exact br_t (nI_le (Nat.le_refl _) (by omega)) (h0 (fun ⟨t', a, b⟩ => hs t' a b))
    | succ m ih =>
      intro t ht hs
      unfold L_X10_isFittedAhead_2
      refine br_f (nI_ge (by omega) (by omega)) ⟨t, rfl, by omega, fun q v4 h4 => ?_, fun q => h1 ⟨t, by omega, q⟩⟩
      rw [h4, show nI t + 1 = nI (t + 1) from nI_1 t]
      refine ih (t + 1) (by omega) (fun t' ht' => ?_)
      by_cases e : t' = t
      · rw [e]; exact q
      · exact hs t' (by omega)
  exact ⟨i + 1, loop i 0 (by omega) (fun t' ht' => absurd ht' (by omega))⟩
theorem c_refuse {τ : kT} {d n : Nat} (hJ : J τ) (hd : d ≤ 6) (hdn : d ≤ N (q_i τ 67) 8525) (hn : n ≤ 5) {post : Int32 → kT → Prop} (h : post (cD (dr (q_i τ 67) n d 0)) τ) : T_X10_doorsRefusal (nI d) (nI n) τ post := by
  obtain ⟨nc, hnc, c1, c2, c3⟩ := hJ.nc
  have e19 : ∀ i, i < d → q_i τ 19 i = q_i τ 67 (4464 + i) := fun i hi => hJ.2.1.1 (13, i, 0) ⟨Nat.lt_of_lt_of_le hi hdn, rfl⟩
  generalize hD0 : dr (q_i τ 67) n d 0 = D0 at h
  have loop : ∀ m i, i + m = d → D0 = dr (q_i τ 67) n m i → L_X10_doorsRefusal_2 (nI d) (nI n) (fun v15 τ16 => post (0 : Int32) τ16) post (m + 1) (nI i) τ := by
    intro m
    induction m with
    | zero =>
      intro i hi he
      have hi : i = d := by omega
      subst hi
      rw [he] at h
      unfold L_X10_doorsRefusal_2
      exact br_t (nI_le (Nat.le_refl _) (by omega)) h
    | succ m ih =>
      intro i hi he
      have hid : i < d := by omega
      rw [he] at h
      unfold dr at h he
      unfold L_X10_doorsRefusal_2
      refine br_f (nI_ge (by omega) (by omega)) ⟨i, rfl, by omega, fun v3 h3 => ?_⟩
      rw [e19 i hid] at h3
      by_cases q1 : q_i τ 67 (4464 + i) = -1
      · rw [if_pos q1] at h
        exact bn_f (by rw [h3]; exact q1) h
      rw [if_neg q1] at h he
      obtain ⟨c, hc, ec⟩ := (hJ.1.2.2.2.2.2.2.2.2.2.2.2.2.2.2.2 i (by omega)).resolve_left q1
      have hc : c < N (q_i τ 67) 8522 := hc
      have ey : cyS (q_i τ 67) i = c := by unfold cyS N; rw [ec, nI_clamp (by omega)]
      have k1 : q_i τ 3 c = q_i τ 67 c := hJ.2.1.1 (1, c, 0) ⟨hc, rfl⟩
      have r1 : q_i τ 4 c = q_i τ 67 (100 + c) := hJ.2.1.1 (2, c, 0) ⟨hc, rfl⟩
      obtain ⟨-, -, p3, -⟩ := hJ.1.2.2.2.2.2.2.2.1 c hc
      rw [ey] at h he
      refine bn_t (by rw [h3]; exact q1) ?_
      rw [h3, ec]
      refine s_rowFinding (n := nc) c1 hnc (by rw [← c3]; exact hc) (fun w => by rw [k1]; rw [r1] at w; exact p3 w) (fun w => br_f (by decide) ?_) (fun w w2 => br_f (by decide) ?_) (fun w w2 => br_t rfl ⟨c, rfl, by omega, ?_⟩)
      · rw [k1] at w
        rw [if_pos w] at h
        exact h
      · rw [k1] at w
        rw [r1] at w2
        rw [if_neg w, if_pos w2] at h
        exact h
      · rw [k1] at w
        rw [r1] at w2 ⊢
        rw [if_neg w, if_neg w2] at h he
        refine ⟨fun q => ?_, fun q => c_ahead (by omega) (fun y => br_f (by decide) ?_) (fun y => br_t rfl (fun v13 h13 => ?_))⟩
        · rw [cif_t (Or.inl q)] at h
          exact h
        · obtain ⟨i', i1, i2⟩ := y
          rw [cif_t (Or.inr ⟨i', i1, by rw [ec, ← i2, e19 i' (by omega)]⟩)] at h
          exact h
        · have nn : ¬ (q_i τ 67 (100 + c) ≠ nI n ∨ ∃ i', i' < i ∧ q_i τ 67 (4464 + i') = q_i τ 67 (4464 + i)) := by
            rintro (u | ⟨i', i1, i2⟩)
            · exact u q
            · exact y ⟨i', i1, by rw [e19 i' (by omega), i2, ec]⟩
          rw [cif_f nn] at he
          rw [h13, show nI i + 1 = nI (i + 1) from nI_1 i]
          exact ih (i + 1) (by omega) he
  exact ⟨d + 1, loop d 0 (by omega) hD0.symm⟩
theorem r_against {τ : kT} {d n : Nat} (hI : InvS (q_i τ 67)) (hd : d ≤ 6) (hdn : d ≤ N (q_i τ 67) 8525) (hn : n ≤ 5) {post : Int32 → kT → Prop} (h : post (rD (dr (q_i τ 67) n d 0)) τ) : T_X11_against (nI d) (nI n) τ post := by
  have hb := hI.bnd.1
  have inner : ∀ {i : Nat} {v : Int32} (hi : i ≤ 6) (K : Int32 → Int32 → kT → Prop) (P : Prop) (f : Int32), ((f = 1 ∧ P) ∨ (f = 0 ∧ ¬ P)) → (∀ f' w, ((f' = 1 ∧ (P ∨ ∃ i', i' < i ∧ q_i τ 67 (4464 + i') = v)) ∨ (f' = 0 ∧ ¬ (P ∨ ∃ i', i' < i ∧ q_i τ 67 (4464 + i') = v))) → K f' w τ) → ∃ m24 : Nat, L_X11_against_100 (nI d) (nI n) (nI i) v K post m24 f (0 : Int32) τ := by
    intro i v hi K P f hf hK
    have loop : ∀ m t (f : Int32), t + m = i → ((f = 1 ∧ (P ∨ ∃ i', i' < t ∧ q_i τ 67 (4464 + i') = v)) ∨ (f = 0 ∧ ¬ (P ∨ ∃ i', i' < t ∧ q_i τ 67 (4464 + i') = v))) → L_X11_against_100 (nI d) (nI n) (nI i) v K post (m + 1) f (nI t) τ := by
      intro m
      induction m with
      | zero =>
        intro t f ht hs
        have ht : t = i := by omega
        subst ht
        unfold L_X11_against_100
        exact br_t (nI_le (Nat.le_refl _) (by omega)) (hK f _ hs)
      | succ m ih =>
        intro t f ht hs
        unfold L_X11_against_100
        refine br_f (nI_ge (by omega) (by omega)) ?_
        rcases hs with ⟨rfl, q⟩ | ⟨rfl, q⟩
        · refine bn_t (by decide) (fun v19 h19 => ?_)
          rw [h19, show nI t + 1 = nI (t + 1) from nI_1 t]
          exact ih (t + 1) 1 (by omega) (Or.inl ⟨rfl, q.imp id (fun ⟨i', a, b⟩ => ⟨i', by omega, b⟩)⟩)
        · refine bn_f rfl ⟨4464 + t, nI_add 4464 t, by omega, fun w v22 h22 => ?_, fun w v23 h23 => ?_⟩
          · rw [h22, show nI t + 1 = nI (t + 1) from nI_1 t]
            refine ih (t + 1) 0 (by omega) (Or.inr ⟨rfl, ?_⟩)
            rintro (u | ⟨i', a, b⟩)
            · exact q (Or.inl u)
            · by_cases e : i' = t
              · rw [e] at b; exact w b
              · exact q (Or.inr ⟨i', by omega, b⟩)
          · rw [h23, show nI t + 1 = nI (t + 1) from nI_1 t]
            exact ih (t + 1) 1 (by omega) (Or.inl ⟨rfl, Or.inr ⟨t, by omega, w⟩⟩)
    refine ⟨i + 1, loop i 0 f (by omega) ?_⟩
    have e : (P ∨ ∃ i', i' < 0 ∧ q_i τ 67 (4464 + i') = v) ↔ P := ⟨fun u => u.elim id (fun ⟨i', a, _⟩ => absurd a (by omega)), Or.inl⟩
    rw [e]; exact hf
  generalize hD0 : dr (q_i τ 67) n d 0 = D0 at h
  have loop : ∀ m i, i + m = d → D0 = dr (q_i τ 67) n m i → L_X11_against_2 (nI d) (nI n) (fun v40 τ41 => post (0 : Int32) τ41) post (m + 1) (nI i) τ := by
    intro m
    induction m with
    | zero =>
      intro i hi he
      have hi : i = d := by omega
      subst hi
      rw [he] at h
      unfold L_X11_against_2
      exact br_t (nI_le (Nat.le_refl _) (by omega)) h
    | succ m ih =>
      intro i hi he
      have hid : i < d := by omega
      rw [he] at h
      unfold dr at h he
      unfold L_X11_against_2
      refine br_f (nI_ge (by omega) (by omega)) ⟨4464 + i, nI_add 4464 i, by omega, fun v3 h3 => ?_⟩
      by_cases q1 : q_i τ 67 (4464 + i) = -1
      · rw [if_pos q1] at h
        have h3 : v3 = -1 := h3.trans q1
        exact br_t h3 (br_t h3 h)
      rw [if_neg q1] at h he
      obtain ⟨c, hc, ec⟩ := (hI.2.2.2.2.2.2.2.2.2.2.2.2.2.2.2 i (by omega)).resolve_left q1
      have hc : c < N (q_i τ 67) 8522 := hc
      have ey : cyS (q_i τ 67) i = c := by unfold cyS N; rw [ec, nI_clamp (by omega)]
      rw [ey] at h he
      have h3' : v3 = nI c := h3.trans ec
      have n1 : ¬ v3 = -1 := by rw [h3']; exact nI_m1 (by omega)
      subst h3'
      refine br_f n1 ⟨c, ev_0a c, by omega, ?_⟩
      by_cases q2 : q_i τ 67 c = 4
      · rw [if_pos q2] at h
        exact br_t q2 (br_f n1 ⟨c, ev_0a c, by omega, bn_f q2 h⟩)
      rw [if_neg q2] at h he
      refine br_f q2 ⟨100 + c, nI_add 100 c, by omega, ?_⟩
      by_cases q3 : q_i τ 67 (100 + c) = -1
      · rw [if_pos q3] at h
        exact br_f (by rw [q3]; decide) (br_f n1 ⟨c, ev_0a c, by omega, bn_t q2 h⟩)
      rw [if_neg q3] at h he
      obtain ⟨r, hr, zr, -⟩ := (hI.row hc).resolve_left (fun w => q3 w.1)
      refine br_t (by rw [zr]; exact nI_pos' (by omega)) ⟨100 + c, nI_add 100 c, by omega, ?_⟩
      have go : ∀ (P : Prop) (f : Int32), ((f = 1 ∧ P) ∨ (f = 0 ∧ ¬ P)) → (P ↔ q_i τ 67 (100 + c) ≠ nI n) → ∃ m24 : Nat, L_X11_against_100 (nI d) (nI n) (nI i) (nI c) (fun v25 v26 τ27 => ((v25 = 0 → (∀ v29 : Int32, v29 = nI i + (1 : Int32) → L_X11_against_2 (nI d) (nI n) (fun v40 τ41 => post (0 : Int32) τ41) post (m + 1) v29 τ27)) ∧ (¬ v25 = 0 → post (-3 : Int32) τ27))) post m24 f (0 : Int32) τ := by
        intro P f hf hP
        refine inner (by omega) _ P f hf (fun f' w hs => ?_)
        rcases hs with ⟨rfl, u⟩ | ⟨rfl, u⟩
        · refine br_f (by decide) ?_
          rw [cif_t (u.imp hP.mp (fun ⟨i', a, b⟩ => ⟨i', a, by rw [b, ec]⟩))] at h
          exact h
        · refine br_t rfl (fun v29 h29 => ?_)
          have nn : ¬ (q_i τ 67 (100 + c) ≠ nI n ∨ ∃ i', i' < i ∧ q_i τ 67 (4464 + i') = q_i τ 67 (4464 + i)) := by
            rintro (y | ⟨i', a, b⟩)
            · exact u (Or.inl (hP.mpr y))
            · exact u (Or.inr ⟨i', a, by rw [b, ec]⟩)
          rw [cif_f nn] at he
          rw [h29, show nI i + 1 = nI (i + 1) from nI_1 i]
          exact ih (i + 1) (by omega) he
      refine ⟨fun q => go False 0 (Or.inr ⟨rfl, id⟩) ⟨False.elim, fun w => w q⟩, fun q => go True 1 (Or.inl ⟨rfl, trivial⟩) ⟨fun _ => q, fun _ => trivial⟩⟩
  exact ⟨d + 1, loop d 0 (by omega) hD0.symm⟩
