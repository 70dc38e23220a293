/-! ===== turning: what it answers, what it notes ===== -/
def psh (n : Nat) (f : Nat → Int32) (w : Int32) : Nat → Int32 := if n < 40 then upd f n w else f
def pshL : Nat → (Nat → Int32) → List Int32 → Nat → Int32
  | _, f, [] => f
  | n, f, w :: l => pshL (n + 1) (psh n f w) l
theorem pshL_app : ∀ (l l2 : List Int32) (n : Nat) (f : Nat → Int32), pshL n f (l ++ l2) = pshL (n + l.length) (pshL n f l) l2
  | [], l2, n, f => rfl
  | w :: l, l2, n, f => by
    show pshL (n + 1) (psh n f w) (l ++ l2) = pshL (n + (l.length + 1)) (pshL (n + 1) (psh n f w) l) l2
    rw [pshL_app l l2 (n + 1), show n + 1 + l.length = n + (l.length + 1) by omega]
theorem psh_agree {n : Nat} {f g : Nat → Int32} (w : Int32) (h : ∀ i, i < 40 → i < n → f i = g i) : ∀ i, i < 40 → i < n + 1 → psh n f w i = psh n g w i := by
  intro i h1 h2
  unfold psh
  by_cases hn : n < 40
  · rw [if_pos hn, if_pos hn, upd_at, upd_at]
    by_cases e : i = n
    · rw [if_pos e, if_pos e]
    · rw [if_neg e, if_neg e]; exact h i h1 (by omega)
  · rw [if_neg hn, if_neg hn]; exact h i h1 (by omega)
theorem pshL_agree : ∀ (l : List Int32) (n : Nat) (f g : Nat → Int32), (∀ i, i < 40 → i < n → f i = g i) → ∀ i, i < 40 → i < n + l.length → pshL n f l i = pshL n g l i
  | [], n, f, g, h => h
  | w :: l, n, f, g, h => fun i h1 h2 => pshL_agree l (n + 1) _ _ (psh_agree w h) i h1 (by simp at h2; omega)
def rowT (s : Nat → Int32) (k c : Nat) : Nat → Nat → Nat × Nat
  | 0, _ => (1, 0)
  | n + 1, j => if s (400 + 18 * c + j) = 0 then rowT s k c n (j + 1) else if N s (2200 + k) ≤ j then (2, j) else if (N s (400 + 18 * c + j)).testBit (N s (2300 + 18 * k + j)) then rowT s k c n (j + 1) else (0, j)
def tg1 (s : Nat → Int32) (c : Nat) : List Int32 := if s c = 3 then [3] else if s c = 0 then [1] else [2, 1]
def rw1 (s : Nat → Int32) (k c : Nat) : Nat × Nat := if s c = 3 then (0, 0) else if s (100 + c) = -1 then (3, 0) else rowT s k c (N s (100 + c)) 0
def tgS (s : Nat → Int32) (v : Int32) : List Int32 := if v = -1 then [] else tg1 s v.toNatClampNeg
def rwS (s : Nat → Int32) (k : Nat) (v : Int32) : Nat × Nat := if v = -1 then (3, 0) else rw1 s k v.toNatClampNeg
def tgK (s : Nat → Int32) (k : Nat) (v : Int32) : List Int32 :=
  if v = -1 then [] else if s v.toNatClampNeg = 4 then 4 :: (tgS s (s (200 + v.toNatClampNeg)) ++ (if (rwS s k (s (200 + v.toNatClampNeg))).1 = 1 then tgS s (s (300 + v.toNatClampNeg)) else [])) else tg1 s v.toNatClampNeg
def rwK (s : Nat → Int32) (k : Nat) (v : Int32) : Nat × Nat :=
  if v = -1 then (3, 0) else if s v.toNatClampNeg = 4 then (if (rwS s k (s (200 + v.toNatClampNeg))).1 = 1 then ((rwS s k (s (300 + v.toNatClampNeg))).1, 18 + (rwS s k (s (300 + v.toNatClampNeg))).2) else rwS s k (s (200 + v.toNatClampNeg))) else rw1 s k v.toNatClampNeg
def cC (n : Nat) : Int32 := if n = 0 then 0 else if n = 1 then 1 else if n = 2 then -12 else -11
def cR (n : Nat) : Int32 := if n = 0 then 0 else if n = 1 then 1 else if n = 2 then -2 else -1
def spO (fr : Nat) (e : Nat × Nat) (sp : Int32) : Int32 := if e.1 = 0 ∨ e.1 = 2 then nI (fr + e.2) else sp
theorem rowT_1 (s : Nat → Int32) (k c : Nat) : ∀ n j, (rowT s k c n j).1 ≤ 2
  | 0, _ => Nat.le_succ 1
  | n + 1, j => by
    unfold rowT
    split
    · exact rowT_1 s k c n (j + 1)
    · split
      · exact Nat.le_refl 2
      · split
        · exact rowT_1 s k c n (j + 1)
        · exact Nat.zero_le 2
theorem rw1_1 (s : Nat → Int32) (k c : Nat) : (rw1 s k c).1 ≤ 3 := by
  unfold rw1
  split
  · exact Nat.zero_le 3
  · split
    · exact Nat.le_refl 3
    · exact Nat.le_succ_of_le (rowT_1 _ _ _ _ _)
theorem rwS_1 (s : Nat → Int32) (k : Nat) (v : Int32) : (rwS s k v).1 ≤ 3 := by
  unfold rwS
  split
  · exact Nat.le_refl 3
  · exact rw1_1 _ _ _
theorem rwK_1 (s : Nat → Int32) (k : Nat) (v : Int32) : (rwK s k v).1 ≤ 3 := by
  unfold rwK
  split
  · exact Nat.le_refl 3
  · split
    · split
      · exact rwS_1 _ _ _
      · exact rwS_1 _ _ _
    · exact rw1_1 _ _ _
theorem tg1_len (s : Nat → Int32) (c : Nat) : (tg1 s c).length ≤ 2 := by
  unfold tg1
  split
  · decide
  · split <;> decide
theorem tgS_len (s : Nat → Int32) (v : Int32) : (tgS s v).length ≤ 2 := by
  unfold tgS
  split
  · decide
  · exact tg1_len _ _
theorem tgK_len (s : Nat → Int32) (k : Nat) (v : Int32) : (tgK s k v).length ≤ 5 := by
  unfold tgK
  split
  · decide
  · split
    · have h1 := tgS_len s (s (200 + v.toNatClampNeg))
      have h2 := tgS_len s (s (300 + v.toNatClampNeg))
      split <;> simp <;> omega
    · have := tg1_len s v.toNatClampNeg; omega
theorem cC_1 {n : Nat} (h : n ≤ 3) : cC n = 1 ↔ n = 1 := by
  rcases (by omega : n = 0 ∨ n = 1 ∨ n = 2 ∨ n = 3) with rfl | rfl | rfl | rfl <;> decide
theorem cR_1 {n : Nat} (h : n ≤ 3) : cR n = 1 ↔ n = 1 := by
  rcases (by omega : n = 0 ∨ n = 1 ∨ n = 2 ∨ n = 3) with rfl | rfl | rfl | rfl <;> decide
theorem spO_1 {fr : Nat} {e : Nat × Nat} {sp : Int32} (h : e.1 = 1) : spO fr e sp = sp := by unfold spO; rw [if_neg (by omega)]
def TS (τ τ2 : kT) (n : Nat) (f : Nat → Int32) (sp : Int32) : Prop := (∀ x, x ≠ 39 → x ≠ 40 → x ≠ 41 → q_i τ2 x = q_i τ x) ∧ (∀ x, q_l τ2 x = q_l τ x) ∧ q_i τ2 40 1 = nI n ∧ q_i τ2 41 = f ∧ q_i τ2 39 1 = sp
theorem c_begin {τ : kT} {post : kT → Prop} (h : ∀ τ2, TS τ τ2 0 (q_i τ 41) (-1) → post τ2) : T_X8_begin τ post := by
  intro τ1 h1 τ2 h2
  refine h τ2 ⟨fun x n1 n2 n3 => ?_, fun x => ?_, ?_, ?_, ?_⟩
  · rw [h2, h1, q_i_si, if_neg n1, q_i_si, if_neg n2]
  · rw [h2, h1]; rfl
  · rw [h2, h1]; rfl
  · rw [h2, h1]; rfl
  · rw [h2, h1]; rfl
theorem c_add {τ τ2 : kT} {n : Nat} {f : Nat → Int32} {sp w : Int32} {post : kT → Prop} (hT : TS τ τ2 n f sp) (hn : n < 2 ^ 30) (h : ∀ τ3, TS τ τ3 (n + 1) (psh n f w) sp → post τ3) : T_X7_add w τ2 post := by
  obtain ⟨t1, t2, t3, t4, t5⟩ := hT
  unfold T_X7_add
  rw [t3]
  refine ⟨fun q τ3 h3 => ?_, fun q => ?_⟩
  · have q : ¬ n < 40 := fun y => nI_ge (b := 40) y (by decide) q
    have h3 : τ3 = q_si τ2 40 1 (nI (n + 1)) := by rw [h3]; exact congrArg (q_si τ2 40 1) (nI_1 n)
    refine h τ3 ⟨fun x n1 n2 n3 => ?_, fun x => ?_, ?_, ?_, ?_⟩
    · rw [h3, q_i_si, if_neg n2]; exact t1 x n1 n2 n3
    · rw [h3]; exact t2 x
    · rw [h3]; rfl
    · rw [h3]; unfold psh; rw [if_neg q]; exact t4
    · rw [h3]; exact t5
  · have q : n < 40 := by
      rcases Nat.lt_or_ge n 40 with y | y
      · exact y
      · exact absurd (nI_le (a := 40) y (by omega)) q
    refine ⟨n, rfl, q, fun τ4 h4 τ5 h5 => ?_⟩
    have e4 : q_i τ4 40 1 = nI n := by rw [h4]; exact t3
    rw [e4] at h5
    have h5 : τ5 = q_si τ4 40 1 (nI (n + 1)) := by rw [h5]; exact congrArg (q_si τ4 40 1) (nI_1 n)
    refine h τ5 ⟨fun x n1 n2 n3 => ?_, fun x => ?_, ?_, ?_, ?_⟩
    · rw [h5, q_i_si, if_neg n2, h4, q_i_si, if_neg n3]; exact t1 x n1 n2 n3
    · rw [h5, h4]; exact t2 x
    · rw [h5]; rfl
    · rw [h5, h4]; unfold psh; rw [if_pos q, ← t4]; rfl
    · rw [h5, h4]; exact t5
theorem TS.spot {τ τ2 : kT} {n : Nat} {f : Nat → Int32} {sp v : Int32} (hT : TS τ τ2 n f sp) : TS τ (q_si τ2 39 1 v) n f v := by
  obtain ⟨t1, t2, t3, t4, t5⟩ := hT
  exact ⟨fun x n1 n2 n3 => by rw [q_i_si, if_neg n1]; exact t1 x n1 n2 n3, t2, t3, t4, rfl⟩
theorem c_row {τ τ2 : kT} {n : Nat} {f : Nat → Int32} {sp : Int32} (hJ : J τ) (hT : TS τ τ2 n f sp) {k c r fr : Nat} (hk : k < N (q_i τ 67) 8523) (hc : c < N (q_i τ 67) 8522) (hr : q_i τ 67 (100 + c) = nI r) (hr2 : r ≤ 18) (hfr : fr ≤ 18) {post : Int32 → kT → Prop}
    (h : ∀ τ3, TS τ τ3 n f (spO fr (rowT (q_i τ 67) k c r 0) sp) → post (cC (rowT (q_i τ 67) k c r 0).1) τ3) : T_X8_tryRow (nI k) (nI c) (nI fr) τ2 post := by
  have hb := hJ.1.bnd
  have hk100 : k < 100 := Nat.lt_of_lt_of_le hk hb.2.1
  have hc100 : c < 100 := Nat.lt_of_lt_of_le hc hb.1
  obtain ⟨l, hl, l1, l2, l3⟩ := hJ.len hk
  have er : q_i τ 4 c = nI r := (hJ.2.1.1 (2, c, 0) ⟨hc, rfl⟩).trans hr
  have key : ∀ m j, j + m = r → (∀ τ3, TS τ τ3 n f (spO fr (rowT (q_i τ 67) k c m j) sp) → post (cC (rowT (q_i τ 67) k c m j).1) τ3) → L_X8_tryRow_25 (nI k) (nI c) (nI fr) (nI r) (nI l) (fun v17 τ18 => post (1 : Int32) τ18) post (m + 1) (nI j) τ2 := by
    intro m
    induction m with
    | zero =>
      intro j hj h
      unfold L_X8_tryRow_25
      exact br_t (nI_le (by omega) (by omega)) (h τ2 hT)
    | succ m ih =>
      intro j hj h
      obtain ⟨hm, m0, m1, m2, -⟩ := hJ.hts hc hr hr2 (i := j) (by omega)
      have eN : N (q_i τ 67) (400 + 18 * c + j) = hm := by unfold N; rw [m2, nI_clamp (by omega)]
      unfold L_X8_tryRow_25
      refine br_f (nI_ge (by omega) (by omega)) ⟨c * 18 + j, ix18 c j, by omega, fun v7 h7 => ?_⟩
      have h7 : v7 = nI hm := by rw [h7, hT.1 5 (by decide) (by decide) (by decide)]; exact m1
      refine ⟨fun q => ⟨fun q2 => ?_, fun q2 τ14 h14 => ?_⟩, fun q v15 h15 => ?_⟩
      · have q2 := (nI_ltI (by omega) (by omega)).mp q2
        have ec : q_i τ 11 (k * 18 + j) = q_i τ 67 (2300 + 18 * k + j) := hJ.2.1.1 (9, k, j) ⟨hk, by rw [l3]; exact q2⟩
        obtain ⟨d1, d2⟩ := hJ.1.2.2.2.2.2.2.2.2.2.2.2.1 k j hk (by rw [l3]; exact q2)
        refine ⟨k * 18 + j, ix18 k j, by omega, ?_⟩
        rw [hT.1 11 (by decide) (by decide) (by decide), ec, d1, h7]
        have s0 : q_i τ 67 (400 + 18 * c + j) ≠ 0 := by rw [m2, ← h7]; exact q
        refine ⟨fun q3 v12 h12 => ?_, fun q3 τ13 h13 => ?_⟩
        · rw [h12, show nI j + 1 = nI (j + 1) from nI_1 j]
          have tb : hm.testBit (N (q_i τ 67) (2300 + 18 * k + j)) = true := by
            cases z : hm.testBit (N (q_i τ 67) (2300 + 18 * k + j)) with
            | true => rfl
            | false => exact absurd ((b_tst (by omega) (by omega)).mpr z) q3
          have e : rowT (q_i τ 67) k c (m + 1) j = rowT (q_i τ 67) k c m (j + 1) := by
            conv => lhs; unfold rowT
            rw [if_neg s0, if_neg (by omega), eN, tb, if_pos rfl]
          rw [e] at h
          exact ih (j + 1) (by omega) h
        · have tb := (b_tst (by omega) (by omega)).mp q3
          have e : rowT (q_i τ 67) k c (m + 1) j = (0, j) := by
            conv => lhs; unfold rowT
            rw [if_neg s0, if_neg (by omega), eN, tb, if_neg (by decide)]
          rw [e] at h
          refine h τ13 ?_
          rw [h13, nI_add]
          exact hT.spot
      · have q2 : ¬ j < l := fun y => q2 ((nI_ltI (by omega) (by omega)).mpr y)
        have s0 : q_i τ 67 (400 + 18 * c + j) ≠ 0 := by rw [m2, ← h7]; exact q
        have e : rowT (q_i τ 67) k c (m + 1) j = (2, j) := by
          conv => lhs; unfold rowT
          rw [if_neg s0, if_pos (by omega)]
        rw [e] at h
        refine h τ14 ?_
        rw [h14, nI_add]
        exact hT.spot
      · rw [h15, show nI j + 1 = nI (j + 1) from nI_1 j]
        have e : rowT (q_i τ 67) k c (m + 1) j = rowT (q_i τ 67) k c m (j + 1) := by
          conv => lhs; unfold rowT
          rw [if_pos (by rw [m2, ← h7]; exact q)]
        rw [e] at h
        exact ih (j + 1) (by omega) h
  unfold T_X8_tryRow
  refine ⟨c, rfl, hc100, fun v2 h2 => ⟨k, rfl, hk100, fun v4 h4 => ⟨r + 1, ?_⟩⟩⟩
  have h2 : v2 = nI r := by rw [h2, hT.1 4 (by decide) (by decide) (by decide)]; exact er
  have h4 : v4 = nI l := by rw [h4, hT.1 10 (by decide) (by decide) (by decide)]; exact l1
  rw [h2, h4]
  exact key r 0 (by omega) h
theorem c_single {τ τ2 : kT} {n : Nat} {f : Nat → Int32} {sp v : Int32} (hJ : J τ) (hT : TS τ τ2 n f sp) (hn : n < 2 ^ 20) {k fr : Nat} (hk : k < N (q_i τ 67) 8523) (hv : z_or v (fun x => x < N (q_i τ 67) 8522 ∧ q_i τ 67 x ≠ 4)) (hfr : fr ≤ 18) {post : Int32 → kT → Prop}
    (h : ∀ τ3, TS τ τ3 (n + (tgS (q_i τ 67) v).length) (pshL n f (tgS (q_i τ 67) v)) (spO fr (rwS (q_i τ 67) k v) sp) → post (cC (rwS (q_i τ 67) k v).1) τ3) : T_X8_trySingle (nI k) v (nI fr) τ2 post := by
  obtain ⟨nc, hnc, c1, c2, c3⟩ := hJ.nc
  have g2 : ∀ {τ' : kT} {n' f' sp'}, TS τ τ' n' f' sp' → q_i τ' 2 5 = nI nc := fun hT => by rw [hT.1 2 (by decide) (by decide) (by decide)]; exact c1
  have g3 : ∀ {τ' : kT} {n' f' sp'}, TS τ τ' n' f' sp' → q_i τ' 3 = q_i τ 3 := fun hT => hT.1 3 (by decide) (by decide) (by decide)
  have g4 : ∀ {τ' : kT} {n' f' sp'}, TS τ τ' n' f' sp' → q_i τ' 4 = q_i τ 4 := fun hT => hT.1 4 (by decide) (by decide) (by decide)
  unfold T_X8_trySingle
  rcases hv with rfl | ⟨c, ⟨hcN, h4⟩, rfl⟩
  · refine s_X4_has_f (n := nc) (g2 hT) (by omega) ?_ (bn_f rfl ?_)
    · rintro ⟨j, hj, e⟩
      exact nI_m1 (by omega) e.symm
    · have e1 : rwS (q_i τ 67) k (-1) = (3, 0) := rfl
      have e2 : tgS (q_i τ 67) (-1) = [] := rfl
      rw [e1, e2] at h
      exact h τ2 hT
  · have hc : c < nc := by rw [← c3]; exact hcN
    have ev : (nI c).toNatClampNeg = c := nI_clamp (by omega)
    have e1 : rwS (q_i τ 67) k (nI c) = rw1 (q_i τ 67) k c := by unfold rwS; rw [if_neg (nI_m1 (by omega)), ev]
    have e2 : tgS (q_i τ 67) (nI c) = tg1 (q_i τ 67) c := by unfold tgS; rw [if_neg (nI_m1 (by omega)), ev]
    rw [e1, e2] at h
    obtain ⟨kd, hkd, k1, k2, k3⟩ := hJ.kd hcN
    have ek : q_i τ 3 c = q_i τ 67 c := k1.trans k2.symm
    refine s_X4_has_t (g2 hT) (by omega) hc (bn_t (by decide) ?_)
    have fin : q_i τ 67 c ≠ 3 → ∀ n' f' τ5, TS τ τ5 n' f' sp → n' = n + (tg1 (q_i τ 67) c).length → f' = pshL n f (tg1 (q_i τ 67) c) → T_X4_isOut (nI c) τ5 (fun r12 τ13 => ((r12 = 0 → (T_X8_tryRow (nI k) (nI c) (nI fr) τ13 (fun r15 τ16 => post r15 τ16))) ∧ (¬ r12 = 0 → post (-11 : Int32) τ13))) := by
      intro q3 n' f' τ5 h5 en ef
      subst en ef
      rcases hJ.row hcN with ⟨z1, z2, z3⟩ | ⟨r, hr, z1, z2, z3⟩
      · refine s_X4_isOut_t (g2 h5) hnc hc (by rw [g3 h5, ek]; exact z3) (by rw [g4 h5]; exact z1) (br_f (by decide) ?_)
        have e : rw1 (q_i τ 67) k c = (3, 0) := by unfold rw1; rw [if_neg q3, if_pos z2]
        rw [e] at h
        exact h τ5 h5
      · refine s_X4_isOut_f (g2 h5) hnc hc (by rw [g4 h5, z1]; exact nI_m1 (by omega)) (br_t rfl ?_)
        have e : rw1 (q_i τ 67) k c = rowT (q_i τ 67) k c r 0 := by unfold rw1; rw [if_neg q3, if_neg (by rw [z2]; exact nI_m1 (by omega)), z3]
        rw [e] at h
        exact c_row hJ h5 hk hcN z2 hr hfr h
    refine s_X4_isBlind (g2 hT) hnc hc (fun q => br_f (by decide) ?_) (fun q => br_t rfl ?_)
    · rw [g3 hT, ek] at q
      have e : rw1 (q_i τ 67) k c = (0, 0) := by unfold rw1; rw [if_pos q]
      have e3 : tg1 (q_i τ 67) c = [3] := by unfold tg1; rw [if_pos q]
      rw [e, e3] at h
      refine c_add hT (by omega) (fun τ5 h5 τ6 h6 => h τ6 ?_)
      rw [h6]
      exact h5.spot
    · rw [g3 hT, ek] at q
      refine s_isOf (g2 hT) hnc hc (fun q2 => br_f (by decide) ?_) (fun q2 => br_t rfl ?_)
      · rw [g3 hT, ek, k2] at q2
        have n0 : q_i τ 67 c ≠ 0 := by
          intro y
          rw [← k2, y] at q2
          exact absurd q2 (by unfold isP; decide)
        have e3 : tg1 (q_i τ 67) c = [2, 1] := by unfold tg1; rw [if_neg q, if_neg n0]
        exact c_add hT (by omega) (fun τ5 h5 => c_add h5 (by omega) (fun τ6 h6 => fin q _ _ τ6 h6 (by rw [e3]; rfl) (by rw [e3]; rfl)))
      · rw [g3 hT, ek, k2] at q2
        have y0 : q_i τ 67 c = 0 := by
          rw [k2] at h4 q ⊢
          rcases (by omega : kd = 0 ∨ kd = 1 ∨ kd = 2 ∨ kd = 3 ∨ kd = 4) with rfl | rfl | rfl | rfl | rfl
          · rfl
          · exact absurd (by unfold isP; decide) q2
          · exact absurd (by unfold isP; decide) q2
          · exact absurd rfl q
          · exact absurd rfl h4
        have e3 : tg1 (q_i τ 67) c = [1] := by unfold tg1; rw [if_neg q, if_pos y0]
        exact c_add hT (by omega) (fun τ5 h5 => fin q _ _ τ5 h5 (by rw [e3]; rfl) (by rw [e3]; rfl))
theorem c_try {τ τ2 : kT} {n : Nat} {f : Nat → Int32} {sp v : Int32} (hJ : J τ) (hT : TS τ τ2 n f sp) (hn : n < 2 ^ 19) {k : Nat} (hk : k < N (q_i τ 67) 8523) (hv : z_or v (fun x => x < N (q_i τ 67) 8522)) {post : Int32 → kT → Prop}
    (h : ∀ τ3, TS τ τ3 (n + (tgK (q_i τ 67) k v).length) (pshL n f (tgK (q_i τ 67) k v)) (spO 0 (rwK (q_i τ 67) k v) sp) → post (cC (rwK (q_i τ 67) k v).1) τ3) : T_X8_tryKey (nI k) v τ2 post := by
  obtain ⟨nc, hnc, c1, c2, c3⟩ := hJ.nc
  have g2 : ∀ {τ' : kT} {n' f' sp'}, TS τ τ' n' f' sp' → q_i τ' 2 5 = nI nc := fun hT => by rw [hT.1 2 (by decide) (by decide) (by decide)]; exact c1
  have g3 : ∀ {τ' : kT} {n' f' sp'}, TS τ τ' n' f' sp' → q_i τ' 3 = q_i τ 3 := fun hT => hT.1 3 (by decide) (by decide) (by decide)
  unfold T_X8_tryKey
  rcases hv with rfl | ⟨c, hcN, rfl⟩
  · have e1 : rwK (q_i τ 67) k (-1) = (3, 0) := rfl
    have e2 : tgK (q_i τ 67) k (-1) = [] := rfl
    rw [e1, e2] at h
    unfold T_X4_isDouble
    refine s_X4_has_f (n := nc) (g2 hT) (by omega) ?_ (br_t rfl (bn_f rfl ?_))
    · rintro ⟨j, hj, e⟩
      exact nI_m1 (by omega) e.symm
    · exact c_single (fr := 0) hJ hT (by omega) hk (Or.inl rfl) (by omega) h
  · have hcN : c < N (q_i τ 67) 8522 := hcN
    have hc : c < nc := by rw [← c3]; exact hcN
    have ev : (nI c).toNatClampNeg = c := nI_clamp (by omega)
    obtain ⟨kd, hkd, k1, k2, k3⟩ := hJ.kd hcN
    have ek : q_i τ 3 c = q_i τ 67 c := k1.trans k2.symm
    by_cases h4 : q_i τ 67 c = 4
    · have e1 : rwK (q_i τ 67) k (nI c) = if (rwS (q_i τ 67) k (q_i τ 67 (200 + c))).1 = 1 then ((rwS (q_i τ 67) k (q_i τ 67 (300 + c))).1, 18 + (rwS (q_i τ 67) k (q_i τ 67 (300 + c))).2) else rwS (q_i τ 67) k (q_i τ 67 (200 + c)) := by
        unfold rwK; rw [if_neg (nI_m1 (by omega)), ev, if_pos h4]
      have e2 : tgK (q_i τ 67) k (nI c) = 4 :: (tgS (q_i τ 67) (q_i τ 67 (200 + c)) ++ (if (rwS (q_i τ 67) k (q_i τ 67 (200 + c))).1 = 1 then tgS (q_i τ 67) (q_i τ 67 (300 + c)) else [])) := by
        unfold tgK; rw [if_neg (nI_m1 (by omega)), ev, if_pos h4]
      rw [e1, e2] at h
      obtain ⟨-, -, -, -, p5, p6⟩ := hJ.1.2.2.2.2.2.2.2.1 c hcN
      have e6 : q_i τ 6 c = q_i τ 67 (200 + c) := hJ.2.1.1 (3, c, 0) ⟨hcN, rfl⟩
      have e7 : q_i τ 7 c = q_i τ 67 (300 + c) := hJ.2.1.1 (4, c, 0) ⟨hcN, rfl⟩
      refine s_X4_isDouble_t (g2 hT) hnc hc (by rw [g3 hT, ek]; exact h4) (bn_t (by decide) ?_)
      refine c_add hT (by omega) (fun τ5 h5 => ⟨c, rfl, by omega, ?_⟩)
      rw [h5.1 6 (by decide) (by decide) (by decide), e6]
      refine c_single (fr := 0) hJ h5 (by omega) hk p5 (by omega) (fun τ6 h6 => ⟨fun q => ⟨c, rfl, by omega, ?_⟩, fun q => ?_⟩)
      · have q := (cC_1 (rwS_1 _ _ _)).mp q
        rw [if_pos q, if_pos q] at h
        rw [h6.1 7 (by decide) (by decide) (by decide), e7]
        have hl := tgS_len (q_i τ 67) (q_i τ 67 (200 + c))
        refine c_single (fr := 18) hJ h6 (by omega) hk p6 (by omega) (fun τ7 h7 => h τ7 ?_)
        rw [spO_1 q] at h7
        have ef : pshL n f (4 :: (tgS (q_i τ 67) (q_i τ 67 (200 + c)) ++ tgS (q_i τ 67) (q_i τ 67 (300 + c)))) = pshL (n + 1 + (tgS (q_i τ 67) (q_i τ 67 (200 + c))).length) (pshL (n + 1) (psh n f 4) (tgS (q_i τ 67) (q_i τ 67 (200 + c)))) (tgS (q_i τ 67) (q_i τ 67 (300 + c))) := pshL_app _ _ _ _
        rw [ef, show n + (4 :: (tgS (q_i τ 67) (q_i τ 67 (200 + c)) ++ tgS (q_i τ 67) (q_i τ 67 (300 + c)))).length = n + 1 + (tgS (q_i τ 67) (q_i τ 67 (200 + c))).length + (tgS (q_i τ 67) (q_i τ 67 (300 + c))).length by simp; omega]
        have es : spO 0 ((rwS (q_i τ 67) k (q_i τ 67 (300 + c))).1, 18 + (rwS (q_i τ 67) k (q_i τ 67 (300 + c))).2) sp = spO 18 (rwS (q_i τ 67) k (q_i τ 67 (300 + c))) sp := by unfold spO; rw [Nat.zero_add]
        rw [es]
        exact h7
      · have q : ¬ (rwS (q_i τ 67) k (q_i τ 67 (200 + c))).1 = 1 := fun y => q ((cC_1 (rwS_1 _ _ _)).mpr y)
        rw [if_neg q, if_neg q] at h
        refine h τ6 ?_
        rw [List.append_nil, show n + (4 :: tgS (q_i τ 67) (q_i τ 67 (200 + c))).length = n + 1 + (tgS (q_i τ 67) (q_i τ 67 (200 + c))).length by simp; omega]
        exact h6
    · have e1 : rwK (q_i τ 67) k (nI c) = rwS (q_i τ 67) k (nI c) := by unfold rwK rwS; rw [if_neg (nI_m1 (by omega)), if_neg (nI_m1 (by omega)), ev, if_neg h4]
      have e2 : tgK (q_i τ 67) k (nI c) = tgS (q_i τ 67) (nI c) := by unfold tgK tgS; rw [if_neg (nI_m1 (by omega)), if_neg (nI_m1 (by omega)), ev, if_neg h4]
      rw [e1, e2] at h
      refine s_X4_isDouble_f (g2 hT) hnc hc (by rw [g3 hT, ek]; exact h4) (bn_f rfl ?_)
      exact c_single (fr := 0) hJ hT (by omega) hk (Or.inr ⟨c, ⟨hcN, h4⟩, rfl⟩) (by omega) h
