/-! ===== cuts that are there already; standing ===== -/
theorem c_same {τ : kT} {n a b : Nat} (h3 : q_i τ 45 3 = nI n) (h5 : n ≤ 5) (ha : a < 6) (hb : b < 6) {post : Int32 → kT → Prop} (h1 : (∀ c, c < n → q_i τ 51 (5 * a + c) = q_i τ 51 (5 * b + c)) → post 1 τ) (h0 : ¬ (∀ c, c < n → q_i τ 51 (5 * a + c) = q_i τ 51 (5 * b + c)) → post 0 τ) : T_X3_haveSameCuts (nI a) (nI b) τ post := by
  have key : ∀ m c, c + m = n → (∀ c', c' < c → q_i τ 51 (5 * a + c') = q_i τ 51 (5 * b + c')) → L_X3_haveSameCuts_2 (nI a) (nI b) (fun v7 τ8 => post (1 : Int32) τ8) post (m + 1) (nI c) τ := by
    intro m
    induction m with
    | zero =>
      intro c hc hs
      have hc : c = n := by omega
      subst hc
      unfold L_X3_haveSameCuts_2
      exact br_t (by rw [h3]; exact nI_le (Nat.le_refl _) (by omega)) (h1 hs)
    | succ m ih =>
      intro c hc hs
      unfold L_X3_haveSameCuts_2
      refine br_f (by rw [h3]; exact nI_ge (by omega) (by omega)) ⟨a * 5 + c, ix5 a c, by omega, b * 5 + c, ix5 b c, by omega, ?_⟩
      rw [show a * 5 + c = 5 * a + c by omega, show b * 5 + c = 5 * b + c by omega]
      refine ⟨fun q v5 h5 => ?_, fun q => h0 (fun y => q (y c (by omega)))⟩
      rw [h5, show nI c + 1 = nI (c + 1) from nI_1 c]
      refine ih (c + 1) (by omega) (fun c' hc' => ?_)
      by_cases e : c' = c
      · rw [e]; exact q
      · exact hs c' (by omega)
  exact ⟨n + 1, key n 0 (by omega) (fun c' hc' => absurd hc' (by omega))⟩
theorem ix_of {n lo t c : Nat} (hc : c < n) : ix n lo (t * n + c) = 5 * key lo t + c := by
  unfold ix
  rw [(dm_of hc).1, (dm_of hc).2]
theorem c_already {τ0 τ : kT} {k d n sp lo T : Nat} {lv : Int32} {op nv : Nat → Nat → Bool} {bl : Nat → Bool} {ms lc : Nat → Nat} {hh : Nat → Nat → Nat} (hS : Sz k d n sp lo T lv) (h0 : C0 τ0 k d n sp lo T lv op nv bl ms hh) (hlc : ∀ c, c < n → lc c < 2 ^ 31) {p ph tr : Nat} {g : Nat → Nat} (hp : p < T * n) (hl : p % n + 1 = n) (hR : CRel τ0 τ k d n lo op lc (p + 1) ph g tr) {post : Int32 → kT → Prop}
    (h1 : ¬ ((∀ t, t < p / n → ¬ same g n t (p / n)) ∧ (lo < k → ¬ sameL g lc n (p / n))) → post 1 τ) (hf : ((∀ t, t < p / n → ¬ same g n t (p / n)) ∧ (lo < k → ¬ sameL g lc n (p / n))) → post 0 τ) : T_X3_isCutAlready (nI (p / n)) τ post := by
  obtain ⟨z1, z2, z3, z4, z5, z6, z7, z8, z9, -⟩ := hS
  obtain ⟨⟨a1, a2, a3, a4, a5, a6⟩, -, -, b4, -⟩ := h0
  have tT := dm_T z3 hp
  have ep := dm_e n p
  have p6 : p / n < 6 := Nat.lt_of_lt_of_le tT z6
  have kk := Nat.lt_of_lt_of_le (z7 _ tT) z1
  have e46 : ∀ t, t < T → q_i τ 46 t = nI (key lo t) := fun t ht => by rw [hR.1.1 46 (by decide) (by decide) (by decide)]; exact b4 _ ht
  have e453 : q_i τ 45 3 = nI n := by rw [hR.1.2.2.1 3 (by decide)]; exact a3
  have cut : ∀ t c, t ≤ p / n → c < n → q_i τ 51 (5 * key lo t + c) = nI (g (t * n + c)) ∧ g (t * n + c) ≤ 9 := fun t c ht hc => by
    rw [← ix_of hc]
    refine hR.2.1 _ ?_
    by_cases e : t = p / n
    · rw [e]
      have : c ≤ p % n := by omega
      omega
    · exact Nat.lt_succ_of_lt (dm_le hc (Nat.lt_of_le_of_ne ht e))
  have sm : ∀ t, t < p / n → ((∀ c, c < n → q_i τ 51 (5 * key lo t + c) = q_i τ 51 (5 * key lo (p / n) + c)) ↔ same g n t (p / n)) := by
    intro t ht
    refine ⟨fun y c hc => ?_, fun y c hc => ?_⟩
    · have c1 := cut t c (Nat.le_of_lt ht) hc
      have c2 := cut (p / n) c (Nat.le_refl _) hc
      have := y c hc
      rw [c1.1, c2.1] at this
      exact (nI_eq (by omega) (by omega)).mp this
    · rw [(cut t c (Nat.le_of_lt ht) hc).1, (cut (p / n) c (Nat.le_refl _) hc).1, y c hc]
  unfold T_X3_isCutAlready
  refine ⟨p / n, rfl, p6, fun v2 h2 => ?_⟩
  rw [e46 _ tT] at h2
  subst h2
  have loop : ∀ m t, t + m = p / n → (∀ t', t' < t → ¬ same g n t' (p / n)) → L_X3_isCutAlready_9 (nI (p / n)) (nI (key lo (p / n))) (fun v10 τ11 => (((q_i τ11 45 7) = (-1 : Int32) → post (0 : Int32) τ11) ∧ (¬ (q_i τ11 45 7) = (-1 : Int32) → (T_X3_haveSameCuts (q_i τ11 45 7) (nI (key lo (p / n))) τ11 (fun r13 τ14 => ((r13 = 0 → post (0 : Int32) τ14) ∧ (¬ r13 = 0 → post (1 : Int32) τ14))))))) post (m + 1) (nI t) τ := by
    intro m
    induction m with
    | zero =>
      intro t ht hs
      have ht : t = p / n := by rw [← ht]; rfl
      subst ht
      unfold L_X3_isCutAlready_9
      refine br_t (nI_le (Nat.le_refl _) (Nat.lt_trans p6 (by decide))) ?_
      rw [hR.1.2.2.1 7 (by decide), a6]
      by_cases q : lo < k
      · rw [z8 q]
        have lo6 : lo < 6 := Nat.lt_of_lt_of_le q z1
        refine br_f (nI_m1 (by omega)) (c_same e453 z4 lo6 kk (fun y => br_f (by decide) (h1 (fun w => w.2 q (fun c hc => ?_)))) (fun y => br_t rfl (hf ⟨hs, fun _ w => y (fun c hc => ?_)⟩)))
        · have := y c hc
          rw [hR.2.2.1 q c hc, (cut (p / n) c (Nat.le_refl _) hc).1] at this
          have c9 := (cut (p / n) c (Nat.le_refl _) hc).2
          exact (nI_eq (hlc c hc) (by omega)).mp this
        · rw [hR.2.2.1 q c hc, (cut (p / n) c (Nat.le_refl _) hc).1, w c hc]
      · rw [z9 q]
        exact br_t rfl (hf ⟨hs, fun y => absurd y q⟩)
    | succ m ih =>
      intro t ht hs
      have ht2 : t < p / n := by rw [← ht]; exact Nat.lt_add_of_pos_right (Nat.succ_pos m)
      have t6 : t < 6 := Nat.lt_trans ht2 p6
      have k6 := Nat.lt_of_lt_of_le (z7 t (Nat.lt_trans ht2 tT)) z1
      unfold L_X3_isCutAlready_9
      refine br_f (nI_ge ht2 (Nat.lt_trans p6 (by decide))) ⟨t, rfl, t6, ?_⟩
      rw [e46 t (Nat.lt_trans ht2 tT)]
      refine c_same e453 z4 k6 kk (fun y => br_f (by decide) (h1 (fun w => w.1 t ht2 ((sm t ht2).mp y)))) (fun y => br_t rfl (fun v8 h8 => ?_))
      rw [h8, show nI t + 1 = nI (t + 1) from nI_1 t]
      refine ih (t + 1) (by rw [← ht]; omega) (fun t' ht' => ?_)
      by_cases e : t' = t
      · rw [e]; exact fun w => y ((sm t ht2).mpr w)
      · exact hs t' (by omega)
  exact ⟨p / n + 1, loop (p / n) 0 (Nat.zero_add _) (fun t' ht' => absurd ht' (by omega))⟩
theorem abs_ok : ∀ a, a < 10 → ∀ b, b < 10 → ∀ s, s < 10 → (q_abs (nI a - nI b) ≤ nI s ↔ near s a b) := by decide
theorem CRel.cut {τ0 τ : kT} {k d n lo p v tr : Nat} {op : Nat → Nat → Bool} {lc g : Nat → Nat} (hn : 0 < n) (h5 : n ≤ 5) (hv : v < 10) (h : CRel τ0 τ k d n lo op lc p p g tr) : CRel τ0 (q_si τ 51 (ix n lo p) (nI v)) k d n lo op lc (p + 1) p (updN g p v) tr := by
  have h' := h.congr (g' := updN g p v) hn (fun q hq => updN_ne (by omega))
  obtain ⟨⟨h1, h2, h3, h4⟩, h5', h6, h7⟩ := h'
  refine ⟨⟨fun x n1 n2 n3 => by rw [q_i_si, if_neg n2]; exact h1 x n1 n2 n3, h2, h3, h4⟩, fun q hq => ?_, fun hl c hc => ?_, fun q hq j hj => ?_⟩
  · by_cases e : q = p
    · rw [e, q_i_si, if_pos rfl, upd_eq, updN_eq]; exact ⟨rfl, by omega⟩
    · rw [q_i_si, if_pos rfl, upd_ne (fun y => e (ix_inj hn h5 y))]
      exact h5' q (by omega)
  · rw [q_i_si, if_pos rfl, upd_ne (fun y => ix_lo hn h5 (by omega) y.symm)]
    exact h6 hl c hc
  · have g := h7 q hq j hj
    generalize q / n = a at g ⊢
    rw [q_i_si, if_neg (by omega)]
    exact g
theorem c_stands {τ0 τ : kT} {k d n sp lo T : Nat} {lv : Int32} {op nv : Nat → Nat → Bool} {bl : Nat → Bool} {ms lc : Nat → Nat} {hh : Nat → Nat → Nat} (hS : Sz k d n sp lo T lv) (h0 : C0 τ0 k d n sp lo T lv op nv bl ms hh) (hlc : ∀ c, c < n → lc c < 2 ^ 31) {p tr v : Nat} {g : Nat → Nat} (hp : p < T * n) (hv : v < 10) (hR : CRel τ0 τ k d n lo op lc p p g tr) {post : Int32 → kT → Prop}
    (h1 : stP op ms lc (lo < k) lo n d sp (updN g p v) p → ∀ τ2, CRel τ0 τ2 k d n lo op lc (p + 1) (p + 1) (updN g p v) tr → post 1 τ2)
    (hf : ¬ stP op ms lc (lo < k) lo n d sp (updN g p v) p → ∀ τ2, CRel τ0 τ2 k d n lo op lc p p (updN g p v) tr → post 0 τ2) : T_X3_stands (nI (p / n)) (nI (p % n)) (nI v) τ post := by
  obtain ⟨z1, z2, z3, z4, z5, z6, z7, z8, z9, -⟩ := id hS
  obtain ⟨⟨a1, a2, a3, a4, a5, a6⟩, -, -, b4, -⟩ := id h0
  have tT := dm_T z3 hp
  have cn := Nat.mod_lt p z3
  have p6 : p / n < 6 := Nat.lt_of_lt_of_le tT z6
  have kk := Nat.lt_of_lt_of_le (z7 _ tT) z1
  have e46 : q_i τ 46 (p / n) = nI (key lo (p / n)) := by rw [hR.1.1 46 (by decide) (by decide) (by decide)]; exact b4 _ tT
  have eix : key lo (p / n) * 5 + p % n = ix n lo p := by unfold ix; rw [Nat.mul_comm]
  have ix30 : ix n lo p < 30 := by
    rw [← eix]
    generalize key lo (p / n) = y at kk ⊢
    omega
  have hR1 := hR.cut z3 z4 hv
  -- behind the check of the step
  have tail : (0 < p % n → near sp (updN g p v p) (updN g p v (p - 1))) → T_X3_doorsTake (nI (p / n)) (nI (p % n)) (nI v) (q_si τ 51 (ix n lo p) (nI v)) (fun r6 τ7 => ((¬ r6 = 0 → (((nI (p % n) + (1 : Int32)) < (q_i τ7 45 3) → post (1 : Int32) τ7) ∧ (¬ (nI (p % n) + (1 : Int32)) < (q_i τ7 45 3) → (T_X3_isCutAlready (nI (p / n)) τ7 (fun r10 τ11 => ((¬ r10 = 0 → post (0 : Int32) τ11) ∧ (r10 = 0 → post (1 : Int32) τ11))))))) ∧ (r6 = 0 → post (0 : Int32) τ7))) := by
    intro hst
    have := c_take hS h0 hp hR1 (post := (fun r6 τ7 => ((¬ r6 = 0 → (((nI (p % n) + (1 : Int32)) < (q_i τ7 45 3) → post (1 : Int32) τ7) ∧ (¬ (nI (p % n) + (1 : Int32)) < (q_i τ7 45 3) → (T_X3_isCutAlready (nI (p / n)) τ7 (fun r10 τ11 => ((¬ r10 = 0 → post (0 : Int32) τ11) ∧ (r10 = 0 → post (1 : Int32) τ11))))))) ∧ (r6 = 0 → post (0 : Int32) τ7)))) (fun hm τ2 h2 => bn_t (by decide) ?_) (fun hm τ2 h2 => bn_f rfl (hf (fun y => hm y.2.1) τ2 (h2.mono (by omega) (Nat.le_refl _))))
    · rw [updN_eq] at this
      exact this
    · rw [h2.1.2.2.1 3 (by decide), a3, show nI (p % n) + 1 = nI (p % n + 1) from nI_1 _]
      by_cases e : p % n + 1 = n
      · refine br_f (by rw [e]; exact nI_nlt (Nat.le_refl _) (by omega)) (c_already hS h0 hlc hp e h2 (fun y => bn_t (by decide) (hf (fun w => y (w.2.2 e)) τ2 (h2.mono (by omega) (by omega)))) (fun y => bn_f rfl (h1 ⟨hst, hm, fun _ => y⟩ τ2 h2)))
      · exact br_t (nI_lt (by omega) (by omega)) (h1 ⟨hst, hm, fun y => absurd y e⟩ τ2 h2)
  unfold T_X3_stands
  refine ⟨p / n, rfl, p6, fun v2 h2 => ?_⟩
  rw [e46, ix5, eix] at h2
  subst h2
  refine ⟨ix n lo p, rfl, ix30, fun τ4 h4 => ?_⟩
  subst h4
  by_cases c0 : p % n = 0
  · refine br_t (by rw [c0]; decide) ?_
    exact tail (fun y => absurd c0 (by omega))
  · have cpos : 0 < p % n := Nat.pos_of_ne_zero c0
    refine br_f (by show ¬ nI (p % n) ≤ nI 0; exact nI_ge cpos (by omega)) ?_
    have p1 : 0 < p := by
      rcases Nat.eq_zero_or_pos p with y | y
      · rw [y, Nat.zero_mod] at cpos; exact absurd cpos (by decide)
      · exact y
    have e1 : ix n lo (p - 1) = ix n lo p - 1 := by
      have hs : (p - 1) / n = p / n ∧ (p - 1) % n = p % n - 1 := by
        have := dm_e n p
        have e : p - 1 = p / n * n + (p % n - 1) := by omega
        rw [e]
        exact dm_of (by omega)
      unfold ix
      rw [hs.1, hs.2]
      omega
    have ip : 0 < ix n lo p := by rw [← eix]; omega
    refine ⟨ix n lo p - 1, by rw [i_eq, i_m1 (by omega), nI_toInt (by omega)]; omega, by omega, ?_⟩
    have e51 : q_i (q_si τ 51 (ix n lo p) (nI v)) 51 (ix n lo p - 1) = nI (g (p - 1)) ∧ g (p - 1) ≤ 9 := by
      have := hR1.2.1 (p - 1) (by omega)
      rw [e1, updN_ne (by omega)] at this
      exact this
    have e454 : q_i (q_si τ 51 (ix n lo p) (nI v)) 45 4 = nI sp := by rw [hR1.1.2.2.1 4 (by decide)]; exact a4
    rw [e51.1, e454, abs_ok v hv (g (p - 1)) (by omega) sp z5]
    refine ⟨fun q => ?_, fun q => ?_⟩
    · refine tail (fun _ => ?_)
      rw [updN_eq, updN_ne (by omega)]
      exact q
    · refine hf (fun y => q ?_) _ (hR1.mono (by omega) (Nat.le_refl _))
      have := y.1 cpos
      rw [updN_eq, updN_ne (by omega)] at this
      exact this
