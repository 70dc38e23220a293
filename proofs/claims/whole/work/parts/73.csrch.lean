/-! ===== the search of KeyShop ===== -/
def Sz (k d n sp lo T : Nat) (lv : Int32) : Prop := k ≤ 6 ∧ d ≤ 6 ∧ 0 < n ∧ n ≤ 5 ∧ sp < 10 ∧ T ≤ 6 ∧ (∀ t, t < T → key lo t < k) ∧ (lo < k → lv = nI lo) ∧ (¬ lo < k → lv = -1) ∧ (∀ y, y < k → y ≠ lo → (if y < lo then y else y - 1) < T)
def C0 (τ0 : kT) (k d n sp lo T : Nat) (lv : Int32) (op nv : Nat → Nat → Bool) (bl : Nat → Bool) (ms : Nat → Nat) (hh : Nat → Nat → Nat) : Prop :=
  (q_i τ0 45 1 = nI k ∧ q_i τ0 45 2 = nI d ∧ q_i τ0 45 3 = nI n ∧ q_i τ0 45 4 = nI sp ∧ q_i τ0 45 6 = nI T ∧ q_i τ0 45 7 = lv) ∧
  (∃ od, od < 2 ^ 31 ∧ q_i τ0 45 10 = nI od ∧ ∀ j, j < d → (od.testBit j = true ↔ ∃ t, t < T ∧ op (key lo t) j = true)) ∧
  (∃ bm, bm < 2 ^ 31 ∧ q_i τ0 45 11 = nI bm ∧ ∀ j, j < d → bm.testBit j = bl j) ∧
  (∀ t, t < T → q_i τ0 46 t = nI (key lo t)) ∧
  (∀ t, t < T → ∃ om, om < 2 ^ 31 ∧ q_i τ0 47 (key lo t) = nI om ∧ ∀ j, j < d → om.testBit j = op (key lo t) j) ∧
  (∀ y, y < k → ∃ m, m < 2 ^ 31 ∧ q_i τ0 48 y = nI m ∧ ∀ j, j < d → m.testBit j = nv y j) ∧
  (∀ j, j < d → q_i τ0 49 j = nI (ms j) ∧ ms j ≤ 4) ∧
  (∀ j, j < d → ∀ c, c < n → q_i τ0 50 (j * 5 + c) = nI (hh j c) ∧ hh j c < 1024)
def CRel (τ0 τ : kT) (k d n lo : Nat) (op : Nat → Nat → Bool) (lc : Nat → Nat) (pc ph : Nat) (g : Nat → Nat) (tr : Nat) : Prop :=
  ((∀ x, x ≠ 45 → x ≠ 51 → ¬ (53 ≤ x ∧ x < 59) → q_i τ x = q_i τ0 x) ∧ (∀ x, q_l τ x = q_l τ0 x) ∧ (∀ i, i ≠ 0 → q_i τ 45 i = q_i τ0 45 i) ∧ q_i τ 45 0 = nI tr) ∧
  (∀ q, q < pc → q_i τ 51 (ix n lo q) = nI (g q) ∧ g q ≤ 9) ∧ (lo < k → ∀ c, c < n → q_i τ 51 (5 * lo + c) = nI (lc c)) ∧
  (∀ q, q < ph → ∀ j, j < d → q_i τ (53 + q / n) (j * 5 + q % n) = nI (mk op lo n g j (q % n) (q / n + 1)))
theorem ix5 (a c : Nat) : nI a * (5 : Int32) + nI c = nI (a * 5 + c) := by
  rw [show nI a * (5 : Int32) = nI (a * 5) from pk_mul a 5, nI_add]
theorem CRel.mono {τ0 τ : kT} {k d n lo pc ph pc' ph' tr : Nat} {op : Nat → Nat → Bool} {lc g : Nat → Nat} (h : CRel τ0 τ k d n lo op lc pc ph g tr) (h1 : pc' ≤ pc) (h2 : ph' ≤ ph) : CRel τ0 τ k d n lo op lc pc' ph' g tr := ⟨h.1, fun q hq => h.2.1 q (by omega), h.2.2.1, fun q hq => h.2.2.2 q (by omega)⟩
/-- other numbers in places that are still to come -/
theorem CRel.congr {τ0 τ : kT} {k d n lo p tr : Nat} {op : Nat → Nat → Bool} {lc g g' : Nat → Nat} (hn : 0 < n) (h : CRel τ0 τ k d n lo op lc p p g tr) (hg : ∀ q, q < p → g' q = g q) : CRel τ0 τ k d n lo op lc p p g' tr := by
  refine ⟨h.1, fun q hq => by rw [hg q hq]; exact h.2.1 q hq, h.2.2.1, fun q hq j hj => ?_⟩
  rw [h.2.2.2 q hq j hj]
  congr 1
  refine mk_congr _ (fun t ht => ?_)
  have m := Nat.mod_lt q hn
  rw [hg]
  by_cases e : t = q / n
  · rw [e, ← dm_e n q]; exact hq
  · exact Nat.lt_trans (dm_le (p := q) m (Nat.lt_of_le_of_ne (Nat.le_of_lt_succ ht) e)) hq
theorem CRel.ht {τ0 τ : kT} {k d n lo pc p j tr : Nat} {op : Nat → Nat → Bool} {lc g : Nat → Nat} {v : Int32} (hn : 0 < n) (h5 : n ≤ 5) (hp : p / n < 6) (h : CRel τ0 τ k d n lo op lc pc p g tr) : CRel τ0 (q_si τ (53 + p / n) (j * 5 + p % n) v) k d n lo op lc pc p g tr := by
  obtain ⟨⟨h1, h2, h3, h4⟩, h5', h6, h7⟩ := h
  have mp := Nat.mod_lt p hn
  have ep := dm_e n p
  generalize p / n = t at hp ep ⊢
  generalize p % n = c at mp ep ⊢
  have w : ∀ x, x ≠ 53 + t → q_i (q_si τ (53 + t) (j * 5 + c) v) x = q_i τ x := fun x hx => by rw [q_i_si, if_neg hx]
  refine ⟨⟨fun x n1 n2 n3 => by rw [w x (by omega)]; exact h1 x n1 n2 n3, h2, fun i hi => by rw [w 45 (by omega)]; exact h3 i hi, by rw [w 45 (by omega)]; exact h4⟩, fun q hq => by rw [w 51 (by omega)]; exact h5' q hq, fun hl c hc => by rw [w 51 (by omega)]; exact h6 hl c hc, fun q hq j' hj' => ?_⟩
  have mq := Nat.mod_lt q hn
  have eq := dm_e n q
  have g := h7 q hq j' hj'
  generalize q / n = a at eq g ⊢
  generalize q % n = b at mq eq g ⊢
  by_cases e : a = t
  · subst e
    have : b ≠ c := by omega
    rw [q_i_si, if_pos rfl, upd_ne (by omega)]
    exact g
  · rw [w _ (by omega)]; exact g
/-! the doors take a cut -/
theorem c_take {τ0 τ : kT} {k d n sp lo T : Nat} {lv : Int32} {op nv : Nat → Nat → Bool} {bl : Nat → Bool} {ms lc : Nat → Nat} {hh : Nat → Nat → Nat} (hS : Sz k d n sp lo T lv) (h0 : C0 τ0 k d n sp lo T lv op nv bl ms hh) {p tr : Nat} {g : Nat → Nat} (hp : p < T * n) (hR : CRel τ0 τ k d n lo op lc (p + 1) p g tr) {post : Int32 → kT → Prop}
    (h1 : (∀ j, j < d → op (key lo (p / n)) j = true → popc 31 (mk op lo n g j (p % n) (p / n + 1)) ≤ ms j) → ∀ τ2, CRel τ0 τ2 k d n lo op lc (p + 1) (p + 1) g tr → post 1 τ2)
    (hf : ¬ (∀ j, j < d → op (key lo (p / n)) j = true → popc 31 (mk op lo n g j (p % n) (p / n + 1)) ≤ ms j) → ∀ τ2, CRel τ0 τ2 k d n lo op lc (p + 1) p g tr → post 0 τ2) : T_X3_doorsTake (nI (p / n)) (nI (p % n)) (nI (g p)) τ post := by
  obtain ⟨z1, z2, z3, z4, z5, z6, z7, -, -, -⟩ := hS
  obtain ⟨⟨a1, a2, a3, a4, a5, a6⟩, -, -, b4, b5, -, b7, -⟩ := h0
  have tT := dm_T z3 hp
  have cn := Nat.mod_lt p z3
  have g9 : ∀ q, q < p + 1 → g q ≤ 9 := fun q hq => (hR.2.1 q hq).2
  have ep := dm_e n p
  have p6 : p / n < 6 := Nat.lt_of_lt_of_le tT z6
  have kk := z7 _ tT
  obtain ⟨om, om1, om2, om3⟩ := b5 _ tT
  have e46 : q_i τ 46 (p / n) = nI (key lo (p / n)) := by rw [hR.1.1 46 (by decide) (by decide) (by decide)]; exact b4 _ tT
  have m10 : ∀ j t', t' ≤ p / n + 1 → mk op lo n g j (p % n) t' < 1024 := fun j t' ht' => mk_lt t' (fun t2 h2 => g9 _ (by
    by_cases e : t2 = p / n
    · rw [e, ← ep]; exact Nat.lt_succ_self _
    · exact Nat.lt_succ_of_lt (dm_le cn (Nat.lt_of_le_of_ne (Nat.le_of_lt_succ (Nat.lt_of_lt_of_le h2 ht')) e))))
  unfold T_X3_doorsTake
  refine ⟨p / n, rfl, p6, key lo (p / n), e46, Nat.lt_of_lt_of_le kk z1, fun v3 h3 => ?_⟩
  rw [hR.1.1 47 (by decide) (by decide) (by decide), om2] at h3
  subst h3
  have loop : ∀ m j τ2, j + m = d → CRel τ0 τ2 k d n lo op lc (p + 1) p g tr → (∀ j', j' < j → op (key lo (p / n)) j' = true → popc 31 (mk op lo n g j' (p % n) (p / n + 1)) ≤ ms j') → (∀ j', j' < j → q_i τ2 (53 + p / n) (j' * 5 + p % n) = nI (mk op lo n g j' (p % n) (p / n + 1))) → L_X3_doorsTake_16 (nI (p / n)) (nI (p % n)) (nI (g p)) (nI om) (fun v39 τ40 => post (1 : Int32) τ40) post (m + 1) (nI j) τ2 := by
    intro m
    induction m with
    | zero =>
      intro j τ2 hj h2 hk hw
      have hj : j = d := by omega
      subst hj
      unfold L_X3_doorsTake_16
      refine br_t (by rw [h2.1.2.2.1 2 (by decide), a2]; exact nI_le (Nat.le_refl _) (by omega)) (h1 hk τ2 ⟨h2.1, h2.2.1, h2.2.2.1, fun q hq j' hj' => ?_⟩)
      by_cases e : q = p
      · rw [e]; exact hw j' hj'
      · exact h2.2.2.2 q (by omega) j' hj'
    | succ m ih =>
      intro j τ2 hj h2 hk hw
      have hjd : j < d := by omega
      have mT := m10 j (p / n) (Nat.le_succ _)
      have mT1 := m10 j (p / n + 1) (Nat.le_refl _)
      -- what is written, and what follows
      have go : ∀ τ3 : kT, τ3 = q_si τ2 (53 + p / n) (j * 5 + p % n) (nI (mk op lo n g j (p % n) (p / n + 1))) → (op (key lo (p / n)) j = true → popc 31 (mk op lo n g j (p % n) (p / n + 1)) ≤ ms j) → L_X3_doorsTake_16 (nI (p / n)) (nI (p % n)) (nI (g p)) (nI om) (fun v39 τ40 => post (1 : Int32) τ40) post (m + 1) (nI (j + 1)) τ3 := by
        intro τ3 h3 hm
        subst h3
        refine ih (j + 1) _ (by omega) (h2.ht z3 z4 p6) (fun j' hj' => ?_) (fun j' hj' => ?_)
        · by_cases e : j' = j
          · rw [e]; exact hm
          · exact hk j' (by omega)
        · rw [q_i_si, if_pos rfl, upd_at]
          by_cases e : j' = j
          · rw [if_pos (by rw [e]), e]
          · rw [if_neg (by omega)]; exact hw j' (by omega)
      have e49 : q_i τ2 49 j = nI (ms j) := by rw [h2.1.1 49 (by decide) (by decide) (by decide)]; exact (b7 j hjd).1
      have ms4 := (b7 j hjd).2
      -- behind the reading of what the turn before left
      have tail : ∀ v9 : Int32, v9 = nI (mk op lo n g j (p % n) (p / n)) → (((nI om &&& ((1 : Int32) <<< (nI j &&& 31))) = 0 → (∃ j11 : Nat, nI (p / n) = nI j11 ∧ j11 < 6 ∧ (∃ j12 : Nat, nI (j * 5 + p % n) = nI j12 ∧ j12 < 30 ∧ (∀ τ13 : kT, τ13 = q_si τ2 (53 + j11) j12 v9 → (∀ v14 : Int32, v14 = nI j + (1 : Int32) → L_X3_doorsTake_16 (nI (p / n)) (nI (p % n)) (nI (g p)) (nI om) (fun v39 τ40 => post (1 : Int32) τ40) post (m + 1) v14 τ13))))) ∧ (¬ (nI om &&& ((1 : Int32) <<< (nI j &&& 31))) = 0 → (∀ v15 : Int32, v15 = (v9 ||| ((1 : Int32) <<< (nI (g p) &&& 31))) → (T_J6_bitCount_0f7a4 v15 τ2 (fun r16 τ17 => (∃ j18 : Nat, nI j = nI j18 ∧ j18 < 6 ∧ ((r16 ≤ (q_i τ17 49 j18) → (∃ j20 : Nat, nI (p / n) = nI j20 ∧ j20 < 6 ∧ (∃ j21 : Nat, nI (j * 5 + p % n) = nI j21 ∧ j21 < 30 ∧ (∀ τ22 : kT, τ22 = q_si τ17 (53 + j20) j21 v15 → (∀ v23 : Int32, v23 = nI j + (1 : Int32) → L_X3_doorsTake_16 (nI (p / n)) (nI (p % n)) (nI (g p)) (nI om) (fun v39 τ40 => post (1 : Int32) τ40) post (m + 1) v23 τ22))))) ∧ (¬ r16 ≤ (q_i τ17 49 j18) → post (0 : Int32) τ17)))))))) := by
        intro v9 h9
        subst h9
        refine ⟨fun q => ⟨p / n, rfl, p6, j * 5 + p % n, rfl, by omega, fun τ13 h13 v14 h14 => ?_⟩, fun q v15 h15 => ?_⟩
        · rw [b_tst om1 (by omega), om3 j hjd] at q
          rw [h14, show nI j + 1 = nI (j + 1) from nI_1 j]
          refine go τ13 ?_ (fun y => absurd (q.symm.trans y) (by decide))
          rw [h13]
          congr 2
          show _ = if op (key lo (p / n)) j then _ else _
          rw [q]; rfl
        · have q2 : op (key lo (p / n)) j = true := by
            cases z : op (key lo (p / n)) j with
            | true => rfl
            | false => exact absurd ((b_tst om1 (by omega)).mpr ((om3 j hjd).trans z)) q
          have em : mk op lo n g j (p % n) (p / n + 1) = mk op lo n g j (p % n) (p / n) ||| 2 ^ (g p) := by
            show (if op (key lo (p / n)) j then _ else _) = _
            rw [q2, if_pos rfl, ← ep]
          have gp := g9 p (Nat.lt_succ_self _)
          rw [b_sh1 (g p) (by omega), b_or, ← em] at h15
          subst h15
          refine s_bitCount (by omega) ⟨j, rfl, by omega, ?_⟩
          rw [e49]
          have pl : popc 31 (mk op lo n g j (p % n) (p / n + 1)) ≤ 14 := popc_le14 (by omega)
          refine ⟨fun q3 => ⟨p / n, rfl, p6, j * 5 + p % n, rfl, by omega, fun τ22 h22 v23 h23 => ?_⟩, fun q3 => hf (fun y => q3 (nI_le (y j hjd q2) (by omega))) τ2 h2⟩
          rw [h23, show nI j + 1 = nI (j + 1) from nI_1 j]
          exact go τ22 h22 (fun _ => (nI_leI (by omega) (by omega)).mp q3)
      unfold L_X3_doorsTake_16
      refine br_f (by rw [h2.1.2.2.1 2 (by decide), a2]; exact nI_ge (by omega) (by omega)) (fun v5 h5 => ?_)
      rw [ix5] at h5
      subst h5
      by_cases t0 : p / n = 0
      · refine bn_f (by rw [t0]; rfl) ?_
        have := tail 0 (by rw [t0]; rfl)
        exact this
      · refine bn_t (fun y => t0 ((nI_eq (b := 0) (by omega) (by decide)).mp y)) ?_
        have np : n ≤ p := by
          rcases Nat.lt_or_ge p n with y | y
          · exact absurd (Nat.div_eq_of_lt y) t0
          · exact y
        obtain ⟨d1, d2⟩ := dm_b z3 np
        have hv := h2.2.2.2 (p - n) (by omega) j hjd
        rw [d1, d2] at hv
        have e1 : nI (p / n) - 1 = nI (p / n - 1) := by
          obtain ⟨t, et⟩ : ∃ t, p / n = t := ⟨_, rfl⟩
          rw [et] at t0 p6 ⊢
          rw [i_eq, i_m1 (by omega), nI_toInt (by omega)]; omega
        refine ⟨p / n - 1, e1, Nat.lt_of_le_of_lt (Nat.sub_le _ _) p6, j * 5 + p % n, rfl, by omega, fun v9 h9 => tail v9 ?_⟩
        rw [h9, hv, Nat.sub_add_cancel (Nat.pos_of_ne_zero t0)]
  refine ⟨d + 1, loop d 0 τ (by omega) hR (fun j' hj' => absurd hj' (by omega)) (fun j' hj' => absurd hj' (by omega))⟩
