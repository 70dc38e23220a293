/-! ===== a new key ===== -/
theorem d10 (x : Int64) (h : 0 ≤ x.toInt) : (x / 10).toInt = x.toInt / 10 := by
  rw [Int64.toInt_div]
  have t : (10 : Int64).toInt = 10 := by decide
  have := x.toInt_lt
  rw [t, Int.tdiv_eq_ediv_of_nonneg h]
  rw [Int.bmod_eq_of_le] <;> omega
theorem r10 (x : Int64) (h : 0 ≤ x.toInt) : (x - x / 10 * 10).toInt = x.toInt % 10 := by
  have t : (10 : Int64).toInt = 10 := by decide
  have := x.toInt_lt
  rw [Int64.toInt_sub, Int64.toInt_mul, d10 x h, t]
  rw [Int.bmod_eq_of_le (n := x.toInt / 10 * 10) (by omega) (by omega)]
  rw [Int.bmod_eq_of_le] <;> omega
theorem r32 (x : Int64) (h : 0 ≤ x.toInt) : ((x - x / 10 * 10).toInt32).toInt = x.toInt % 10 := by
  rw [Int64.toInt_toInt32, r10 x h]
  rw [Int.bmod_eq_of_le] <;> omega
def itd (x : Int64) : Nat → Int64
  | 0 => x
  | j + 1 => itd x j / 10
def dig (x : Int64) (j : Nat) : Int32 := (itd x j - itd x j / 10 * 10).toInt32
theorem itd_nn (x : Int64) (h : 0 ≤ x.toInt) : ∀ j, 0 ≤ (itd x j).toInt
  | 0 => h
  | j + 1 => by
    have := itd_nn x h j
    show 0 ≤ (itd x j / 10).toInt
    rw [d10 _ this]
    omega
theorem dig_9 (x : Int64) (h : 0 ≤ x.toInt) (j : Nat) : dig x j = nI ((itd x j).toInt % 10).toNat ∧ ((itd x j).toInt % 10).toNat ≤ 9 := by
  have := itd_nn x h j
  refine ⟨?_, by omega⟩
  unfold dig
  rw [i_eq, r32 _ this, nI_toInt (by omega)]
  omega
def patN (g : Nat → Int32) (a : Nat) (f : Nat → Int32) (m : Nat) : Nat → Int32 := fun i => if a ≤ i ∧ i < a + m then f (i - a) else g i
theorem patN_0 (g : Nat → Int32) (a : Nat) (f : Nat → Int32) : patN g a f 0 = g := by
  funext i
  unfold patN
  rw [if_neg (by omega)]
theorem patN_1 (g : Nat → Int32) (a : Nat) (f : Nat → Int32) (m : Nat) : upd (patN g a f m) (a + m) (f m) = patN g a f (m + 1) := by
  funext i
  rw [upd_at]
  unfold patN
  by_cases e : i = a + m
  · rw [if_pos e, if_pos (by omega), e, show a + m - a = m by omega]
  · rw [if_neg e]
    by_cases q : a ≤ i ∧ i < a + m
    · rw [if_pos q, if_pos (by omega)]
    · rw [if_neg q, if_neg (by omega)]
theorem patN_in {g : Nat → Int32} {a m j : Nat} {f : Nat → Int32} (h : j < m) : patN g a f m (a + j) = f j := by
  unfold patN
  rw [if_pos (by omega), show a + j - a = j by omega]
theorem patN_out {g : Nat → Int32} {a m i : Nat} {f : Nat → Int32} (h : ¬ (a ≤ i ∧ i < a + m)) : patN g a f m i = g i := if_neg h
theorem s_setCut {τ : kT} {c n i m : Nat} {v : Int32} {post : kT → Prop} (hm : q_i τ 9 5 = nI n) (hn : n ≤ 100) (hc : c < n) (hl : q_i τ 10 c = nI m) (hm2 : m ≤ 18) (hi : i < m) (h : post (q_si τ 11 (c * 18 + i) v)) : T_X5_setCut (nI c) (nI i) v τ post := by
  unfold T_X5_setCut
  refine s_X5_hasCut_t hm hn hc hl (by omega) hi (br_f (by decide) ⟨c * 18 + i, by rw [← nI_add, ← pk_mul]; rfl, by omega, fun τ5 h5 => ?_⟩)
  rw [h5]; exact h
/-- the class's empty key -/
def KE (τ τ2 : kT) (c : Nat) (v : Int32) : Prop := (∀ x, x ≠ 9 → x ≠ 10 → x ≠ 12 → q_i τ2 x = q_i τ x) ∧ (∀ x, x ≠ 13 → x ≠ 14 → q_l τ2 x = q_l τ x) ∧ q_i τ2 9 5 = nI (c + 1) ∧ q_i τ2 10 = upd (q_i τ 10) c v ∧ q_i τ2 12 = upd (q_i τ 12) c (-1) ∧ q_l τ2 13 = vp_updL (q_l τ 13) c 0 ∧ q_l τ2 14 = vp_updL (q_l τ 14) c 0
theorem c_addEmpty {τ : kT} {c : Nat} {v : Int32} (hm : q_i τ 9 5 = nI c) (hc : c < 100) {post : Int32 → kT → Prop} (h : ∀ τ2, KE τ τ2 c v → post (nI c) τ2) : T_X5_addEmpty v τ post := by
  intro v1 h1 τ2 h2
  rw [hm] at h1 h2
  have h2 : τ2 = q_si τ 9 5 (nI (c + 1)) := by rw [h2]; exact congrArg (q_si τ 9 5) (nI_1 c)
  subst h1
  refine ⟨c, rfl, hc, fun τ4 h4 => ⟨c, rfl, hc, fun τ6 h6 => ⟨c, rfl, hc, fun τ8 h8 => ⟨c, rfl, hc, fun τ10 h10 => h τ10 ⟨fun x n2 n3 n4 => ?_, fun x n2 n3 => ?_, ?_, ?_, ?_, ?_, ?_⟩⟩⟩⟩⟩
  · rw [h10, q_i_sl, h8, q_i_sl, h6, q_i_si, if_neg n4, h4, q_i_si, if_neg n3, h2, q_i_si, if_neg n2]
  · rw [h10, q_l_sl, if_neg n3, h8, q_l_sl, if_neg n2, h6, h4, h2]; rfl
  · rw [h10, h8, h6, h4, h2]; rfl
  · rw [h10, h8, h6, h4, h2]; rfl
  · rw [h10, h8, h6, h4, h2]; rfl
  · rw [h10, h8, h6, h4, h2]; rfl
  · rw [h10, h8, h6, h4, h2]; rfl
def NK (τ τ3 : kT) (c n : Nat) (f : Nat → Int32) : Prop := ∃ τ2, KE τ τ2 c (nI n) ∧ W1 11 τ2 τ3 (patN (q_i τ 11) (c * 18) f n)
theorem c_addK {τ : kT} {c n : Nat} {x : Int64} (hm : q_i τ 9 5 = nI c) (hc : c < 100) (hn : n ≤ 18) {post : Int32 → kT → Prop} (h : ∀ τ3, NK τ τ3 c n (dig x) → post (nI c) τ3) : T_X5_add (nI n) x τ post := by
  refine c_addEmpty hm hc (fun τ2 hE => ?_)
  have key : ∀ m j τ3, j + m = n → W1 11 τ2 τ3 (patN (q_i τ 11) (c * 18) (dig x) j) → L_X5_add_13 (nI n) x (nI c) (fun v9 v10 τ11 => post (nI c) τ11) post (m + 1) (itd x j) (nI j) τ3 := by
    intro m
    induction m with
    | zero =>
      intro j τ3 hj hW
      have hj : j = n := by omega
      subst hj
      unfold L_X5_add_13
      exact br_t (nI_le (Nat.le_refl _) (by omega)) (h τ3 ⟨τ2, hE, hW⟩)
    | succ m ih =>
      intro j τ3 hj hW
      unfold L_X5_add_13
      refine br_f (nI_ge (by omega) (by omega)) (s_setCut (n := c + 1) (m := n) (by rw [hW.1 9 (by decide)]; exact hE.2.2.1) (by omega) (by omega) (by rw [hW.1 10 (by decide), hE.2.2.2.1, upd_eq]) hn (by omega) (fun v6 h6 v7 h7 => ?_))
      rw [h6, h7, show nI j + 1 = nI (j + 1) from nI_1 j]
      refine ih (j + 1) _ (by omega) ?_
      rw [← patN_1]
      exact hW.set _ _
  refine ⟨n + 1, key n 0 τ2 (by omega) ?_⟩
  rw [patN_0, ← hE.1 11 (by decide) (by decide) (by decide)]
  exact W1.refl 11 τ2
theorem s_cutAtB {τ : kT} {c n i m : Nat} {post : Int32 → kT → Prop} (hm : q_i τ 9 5 = nI n) (hn : n ≤ 100) (hc : c < n) (hl : q_i τ 10 c = nI m) (hm2 : m ≤ 18) (hi : i < m) (h : post (q_i τ 11 (c * 18 + i)) τ) : T_X5_cutAt (nI c) (nI i) τ post := by
  unfold T_X5_cutAt
  exact s_X5_hasCut_t hm hn hc hl (by omega) hi (br_f (by decide) ⟨c * 18 + i, by rw [← nI_add, ← pk_mul]; rfl, by omega, h⟩)
theorem nI_sub1 {n j : Nat} (h : j < n) (hn : n < 2 ^ 30) : nI n - 1 - nI j = nI (n - 1 - j) := by
  have e1 : nI n - 1 = nI (n - 1) := by rw [i_eq, i_m1 hn, nI_toInt (by omega)]; omega
  rw [e1, i_eq, pk_sub_toInt (by omega) (by omega), nI_toInt (by omega)]
  omega
theorem c_addT {τ : kT} {c n k l : Nat} {f : Nat → Int32} (hm : q_i τ 9 5 = nI c) (hc : c < 100) (hn : n ≤ 18) (hk : k < c) (hl : q_i τ 10 k = nI l) (hl8 : l ≤ 18) (hnl : n ≤ l) (hf : ∀ j, j < n → q_i τ 11 (k * 18 + (n - 1 - j)) = f j) {post : Int32 → kT → Prop} (h : ∀ τ3, NK τ τ3 c n f → post (nI c) τ3) : T_X5_addTurned (nI k) (nI n) τ post := by
  refine c_addEmpty hm hc (fun τ2 hE => ?_)
  have key : ∀ m j τ3, j + m = n → W1 11 τ2 τ3 (patN (q_i τ 11) (c * 18) f j) → L_X5_addTurned_9 (nI k) (nI n) (nI c) (fun v10 τ11 => post (nI c) τ11) post (m + 1) (nI j) τ3 := by
    intro m
    induction m with
    | zero =>
      intro j τ3 hj hW
      have hj : j = n := by omega
      subst hj
      unfold L_X5_addTurned_9
      exact br_t (nI_le (Nat.le_refl _) (by omega)) (h τ3 ⟨τ2, hE, hW⟩)
    | succ m ih =>
      intro j τ3 hj hW
      unfold L_X5_addTurned_9
      have q9 : q_i τ3 9 5 = nI (c + 1) := by rw [hW.1 9 (by decide)]; exact hE.2.2.1
      refine br_f (nI_ge (by omega) (by omega)) ?_
      rw [nI_sub1 (by omega) (by omega)]
      refine s_cutAtB (n := c + 1) (m := l) q9 (by omega) (by omega) (by rw [hW.1 10 (by decide), hE.2.2.2.1, upd_ne (by omega)]; exact hl) hl8 (by omega) ?_
      rw [hW.2.2, patN_out (by omega), hf j (by omega)]
      refine s_setCut (n := c + 1) (m := n) q9 (by omega) (by omega) (by rw [hW.1 10 (by decide), hE.2.2.2.1, upd_eq]) hn (by omega) (fun v7 h7 => ?_)
      rw [h7, show nI j + 1 = nI (j + 1) from nI_1 j]
      refine ih (j + 1) _ (by omega) ?_
      rw [← patN_1]
      exact hW.set _ _
  refine ⟨n + 1, key n 0 τ2 (by omega) ?_⟩
  rw [patN_0, ← hE.1 11 (by decide) (by decide) (by decide)]
  exact W1.refl 11 τ2
/-! the reference -/
def newK (s : Nat → Int32) (c : Nat) (v b : Int32) : Nat → Int32 := fillN (upd (upd (upd (upd s 8523 (nI (c + 1))) 8527 b) (2200 + c) v) (4100 + c) (-1)) (4504 + 40 * c) 0 40
theorem newK_n {s : Nat → Int32} {c n : Nat} {v b : Int32} {f : Nat → Int32} (hc : c < 100) (hn : n ≤ 18) : (∀ i, i ≠ 8523 ∧ i ≠ 8527 ∧ i ≠ 2200 + c ∧ i ≠ 4100 + c ∧ ¬ (4504 + 40 * c ≤ i ∧ i < 4544 + 40 * c) ∧ ¬ (2300 + 18 * c ≤ i ∧ i < 2318 + 18 * c) → patN (newK s c v b) (2300 + 18 * c) f n i = s i) ∧ patN (newK s c v b) (2300 + 18 * c) f n 8523 = nI (c + 1) ∧ patN (newK s c v b) (2300 + 18 * c) f n 8527 = b ∧ patN (newK s c v b) (2300 + 18 * c) f n (2200 + c) = v ∧ patN (newK s c v b) (2300 + 18 * c) f n (4100 + c) = -1 ∧ (∀ d, d < 40 → patN (newK s c v b) (2300 + 18 * c) f n (4504 + 40 * c + d) = 0) ∧ (∀ j, j < n → patN (newK s c v b) (2300 + 18 * c) f n (2300 + 18 * c + j) = f j) := by
  refine ⟨fun i hi => ?_, ?_, ?_, ?_, ?_, fun d hd => ?_, fun j hj => patN_in hj⟩
  · rw [patN_out (by omega)]; unfold newK; rw [fillN_out (by omega), upd_ne (by omega), upd_ne (by omega), upd_ne (by omega), upd_ne (by omega)]
  · rw [patN_out (by omega)]; unfold newK; rw [fillN_out (by omega), upd_ne (by omega), upd_ne (by omega), upd_ne (by omega), upd_eq]
  · rw [patN_out (by omega)]; unfold newK; rw [fillN_out (by omega), upd_ne (by omega), upd_ne (by omega), upd_eq]
  · rw [patN_out (by omega)]; unfold newK; rw [fillN_out (by omega), upd_ne (by omega), upd_eq]
  · rw [patN_out (by omega)]; unfold newK; rw [fillN_out (by omega), upd_eq]
  · rw [patN_out (by omega)]; unfold newK; rw [fillN_in (by omega)]
theorem r_newKey {τ : kT} {c b : Nat} {v : Int32} (hz : ∀ k, 8530 ≤ k → q_i τ 67 k = 0 ∧ q_i τ 68 k = 0) (hm : q_i τ 67 8523 = nI c) (hc : c < 100) (hb : q_i τ 67 8527 = nI (b + 1)) (hb0 : b < 1000) {post : Int32 → kT → Prop} (h : ∀ τ2 τ3, τ2 = q_si (q_wi τ 68 (q_i τ 67)) 66 2 1 → W1 67 τ2 τ3 (newK (q_i τ 67) c v (nI b)) → post (nI c) τ3) : T_X11_newKey v τ post := by
  refine s_change hz (fun v3 h3 => ?_)
  obtain ⟨τ2, e2⟩ : ∃ τ2, τ2 = q_si (q_wi τ 68 (q_i τ 67)) 66 2 1 := ⟨_, rfl⟩
  rw [← e2] at h3 ⊢
  have z67 : q_i τ2 67 = q_i τ 67 := by rw [e2]; rfl
  have h3 : v3 = nI c := by rw [h3, z67]; exact hm
  subst h3
  intro τ4 h4 τ5 h5
  have e5 : q_i τ4 67 8527 - 1 = nI b := by
    rw [h4]
    show q_i τ2 67 8527 - 1 = _
    rw [z67, hb, i_eq, i_m1 (by omega), nI_toInt (by omega)]; omega
  rw [e5] at h5
  refine ⟨2200 + c, nI_add 2200 c, by omega, fun τ7 h7 => ⟨4100 + c, nI_add 4100 c, by omega, fun τ9 h9 => ⟨41, ?_⟩⟩⟩
  have key : ∀ m j τ3, j + m = 40 → W1 67 τ2 τ3 (fillN (upd (upd (upd (upd (q_i τ 67) 8523 (nI (c + 1))) 8527 (nI b)) (2200 + c) v) (4100 + c) (-1)) (4504 + 40 * c) 0 j) → L_X11_newKey_60 v (nI c) (fun v15 τ16 => post (nI c) τ16) post (m + 1) (nI j) τ3 := by
    intro m
    induction m with
    | zero =>
      intro j τ3 hj hW
      have hj : j = 40 := by omega
      subst hj
      unfold L_X11_newKey_60
      exact br_t (by decide) (h τ2 τ3 e2 hW)
    | succ m ih =>
      intro j τ3 hj hW
      unfold L_X11_newKey_60
      refine br_f (nI_ge (b := 40) (by omega) (by decide)) ⟨4504 + 40 * c + j, ev_3 4504 40 c j, by omega, fun τ14 h14 v15 h15 => ?_⟩
      rw [h14, h15, show nI j + 1 = nI (j + 1) from nI_1 j]
      refine ih (j + 1) _ (by omega) ?_
      rw [← fillN_1]
      exact hW.set _ _
  refine key 40 0 τ9 (by omega) ?_
  rw [fillN_0, h9, h7, h5, h4, ← z67, show nI c + 1 = nI (c + 1) from nI_1 c]
  exact ((((W1.refl 67 τ2).set _ _).set _ _).set _ _).set _ _
theorem inv_newk {s s2 : Nat → Int32} (h : InvS s) (c0 n b : Nat) (f : Nat → Int32) (cut : Nat → Nat) (hc0 : N s 8523 = c0) (hc9 : c0 < 100) (hb : N s 8527 = b + 1) (h23 : s2 8523 = nI (c0 + 1)) (h27 : s2 8527 = nI b) (hlen : s2 (2200 + c0) = nI n) (hn18 : n ≤ 18) (hhold : s2 (4100 + c0) = -1) (hwish : ∀ d, d < 40 → s2 (4504 + 40 * c0 + d) = 0) (hcut : ∀ j, j < n → s2 (2300 + 18 * c0 + j) = f j) (hf : ∀ j, j < n → f j = nI (cut j) ∧ cut j ≤ 9) (hn : ∀ i, i ≠ 8523 ∧ i ≠ 8527 ∧ i ≠ 2200 + c0 ∧ i ≠ 4100 + c0 ∧ ¬ (4504 + 40 * c0 ≤ i ∧ i < 4544 + 40 * c0) ∧ ¬ (2300 + 18 * c0 ≤ i ∧ i < 2318 + 18 * c0) → s2 i = s i) : InvS s2 := by
  obtain ⟨h1, h2, h3, h4, h5, h6, h7, h8, h9, h10, h11, h12, h13, h14, h15, h16⟩ := id h
  obtain ⟨b1, b2, b3, b4, b5, b6, b7, b8⟩ := h.bnd
  have hN : ∀ i, i ≠ 8523 ∧ i ≠ 8527 ∧ i ≠ 2200 + c0 ∧ i ≠ 4100 + c0 ∧ ¬ (4504 + 40 * c0 ≤ i ∧ i < 4544 + 40 * c0) ∧ ¬ (2300 + 18 * c0 ≤ i ∧ i < 2318 + 18 * c0) → N s2 i = N s i := fun i q => by unfold N; rw [hn i q]
  have hb6 := h6.2
  have e23 : N s2 8523 = c0 + 1 := by unfold N; rw [h23, nI_clamp (by omega)]
  have el : N s2 (2200 + c0) = n := by unfold N; rw [hlen, nI_clamp (by omega)]
  refine ⟨?_, ?_, ?_, ?_, ?_, ?_, ?_, ?_, ?_, ?_, ?_, ?_, ?_, ?_, ?_, ?_⟩
  · rw [hN 8522 (by omega), hn 8522 (by omega)]; exact h1
  · rw [e23]; exact ⟨h23, by omega⟩
  · rw [hN 8524 (by omega), hn 8524 (by omega)]; exact h3
  · rw [hN 8525 (by omega), hn 8525 (by omega)]; exact h4
  · rw [hN 8526 (by omega), hn 8526 (by omega)]; exact h5
  · rw [show N s2 8527 = b by unfold N; rw [h27, nI_clamp (by omega)]]; exact ⟨h27, by omega⟩
  · rw [hn 8528 (by omega)]; exact h7
  · intro c hc
    rw [hN 8522 (by omega)] at hc
    obtain ⟨p1, p2, p3, p4, p5, p6⟩ := h8 c hc
    refine ⟨by rw [hN c (by omega), hn c (by omega)]; exact p1, by rw [hn (100 + c) (by omega)]; exact p2, by rw [hn (100 + c) (by omega), hn c (by omega)]; exact p3, by rw [hn (100 + c) (by omega), hn c (by omega)]; exact p4, ?_, ?_⟩
    · rw [hn (200 + c) (by omega)]; exact p5.imp id (fun ⟨x, ⟨x1, x2⟩, x3⟩ => ⟨x, ⟨by rw [hN 8522 (by omega)]; exact x1, by rw [hn x (by omega)]; exact x2⟩, x3⟩)
    · rw [hn (300 + c) (by omega)]; exact p6.imp id (fun ⟨x, ⟨x1, x2⟩, x3⟩ => ⟨x, ⟨by rw [hN 8522 (by omega)]; exact x1, by rw [hn x (by omega)]; exact x2⟩, x3⟩)
  · intro c j hc hj
    rw [hN 8522 (by omega)] at hc
    rw [hN (400 + 18 * c + j) (by omega), hn (400 + 18 * c + j) (by omega), hN c (by omega), hN (100 + c) (by omega)]
    exact h9 c j hc hj
  · intro q j hj
    rw [hn 8528 (by omega)] at q
    rw [hN (8504 + j) (by omega), hn (8504 + j) (by omega), hN 8528 (by omega)]
    exact h10 q j hj
  · intro k hk
    rw [e23] at hk
    rw [hN 8526 (by omega)]
    by_cases e : k = c0
    · rw [e, el, hlen, hhold]
      exact ⟨⟨rfl, hn18⟩, Or.inl (Or.inl rfl)⟩
    · rw [hN (2200 + k) (by omega), hn (2200 + k) (by omega), hn (4100 + k) (by omega)]
      exact h11 k (by omega)
  · intro k i2 hk hi2
    rw [e23] at hk
    by_cases e : k = c0
    · rw [e] at hi2 ⊢
      rw [el] at hi2
      have g := hf i2 hi2
      have e9 : N s2 (2300 + 18 * c0 + i2) = cut i2 := by unfold N; rw [hcut i2 hi2, g.1, nI_clamp (by omega)]
      rw [e9, hcut i2 hi2, g.1]
      exact ⟨rfl, g.2⟩
    · rw [hN (2200 + k) (by omega)] at hi2
      have hl := (h11 k (by omega)).1.2
      rw [hN (2300 + 18 * k + i2) (by omega), hn (2300 + 18 * k + i2) (by omega)]
      exact h12 k i2 (by omega) hi2
  · intro k d hk hd
    rw [e23] at hk
    by_cases e : k = c0
    · rw [e, hwish d hd]; exact Or.inl rfl
    · rw [hN 8525 (by omega), hn (4504 + 40 * k + d) (by omega)]
      exact h13 k d (by omega) hd
  · intro c hc
    rw [hN 8524 (by omega)] at hc
    rw [hN (4200 + c) (by omega), hn (4200 + c) (by omega), hN (4212 + c) (by omega), hn (4212 + c) (by omega)]
    exact h14 c hc
  · intro c p hc hp
    rw [hN 8524 (by omega)] at hc
    rw [hN (4212 + c) (by omega)] at hp
    have hl := (h14 c hc).2.2
    rw [hn (4224 + 20 * c + p) (by omega), hN 8522 (by omega)]
    exact h15 c p hc hp
  · intro d hd
    rw [hN 8525 (by omega)] at hd
    rw [hn (4464 + d) (by omega), hN 8522 (by omega)]
    exact h16 d hd
theorem corr_newk {τ τ1 : kT} {s s2 : Nat → Int32} (hI : InvS s) (hC : Corr τ 1 s) (c0 n b : Nat) (f : Nat → Int32) (cut : Nat → Nat) (hc0 : N s 8523 = c0) (hc9 : c0 < 100) (hb : N s 8527 = b + 1) (h23 : s2 8523 = nI (c0 + 1)) (h27 : s2 8527 = nI b) (hlen : s2 (2200 + c0) = nI n) (hn18 : n ≤ 18) (hhold : s2 (4100 + c0) = -1) (hwish : ∀ d, d < 40 → s2 (4504 + 40 * c0 + d) = 0) (hcut : ∀ j, j < n → s2 (2300 + 18 * c0 + j) = f j) (hf : ∀ j, j < n → f j = nI (cut j) ∧ cut j ≤ 9) (x14 : q_i τ1 1 4 = q_i τ 1 4) (x15 : q_i τ1 1 5 = q_i τ 1 5) (x16 : q_i τ1 1 6 = nI b) (x9 : q_i τ1 9 5 = nI (c0 + 1)) (x10 : q_i τ1 10 = upd (q_i τ 10) c0 (nI n)) (x12 : q_i τ1 12 = upd (q_i τ 12) c0 (-1)) (x11 : q_i τ1 11 = patN (q_i τ 11) (c0 * 18) f n) (hn : ∀ i, i ≠ 8523 ∧ i ≠ 8527 ∧ i ≠ 2200 + c0 ∧ i ≠ 4100 + c0 ∧ ¬ (4504 + 40 * c0 ≤ i ∧ i < 4544 + 40 * c0) ∧ ¬ (2300 + 18 * c0 ≤ i ∧ i < 2318 + 18 * c0) → s2 i = s i) (hx : ∀ x, (2 ≤ x ∧ x < 9) ∨ (15 ≤ x ∧ x < 20) → q_i τ1 x = q_i τ x) (hl13 : q_l τ1 13 = vp_updL (q_l τ 13) c0 0) (hl14 : q_l τ1 14 = vp_updL (q_l τ 14) c0 0) : Corr τ1 1 s2 := by
  obtain ⟨b1, b2, b3, b4, b5, b6, b7, b8⟩ := hI.bnd
  have hN : ∀ i, i ≠ 8523 ∧ i ≠ 8527 ∧ i ≠ 2200 + c0 ∧ i ≠ 4100 + c0 ∧ ¬ (4504 + 40 * c0 ≤ i ∧ i < 4544 + 40 * c0) ∧ ¬ (2300 + 18 * c0 ≤ i ∧ i < 2318 + 18 * c0) → N s2 i = N s i := fun i q => by unfold N; rw [hn i q]
  have e23 : N s2 8523 = c0 + 1 := by unfold N; rw [h23, nI_clamp (by omega)]
  have el : N s2 (2200 + c0) = n := by unfold N; rw [hlen, nI_clamp (by omega)]
  refine ⟨?_, fun k d hk hd => ?_⟩
  · rintro ⟨t, c, j⟩ h
    match t, h with
    | 0, h =>
      obtain ⟨hc7, rfl⟩ := h
      match c, hc7 with
      | 0, _ =>
        show q_i τ1 1 4 = s2 8525
        rw [x14, hn 8525 (by omega)]
        exact hC.1 (0, 0, 0) ⟨by decide, rfl⟩
      | 1, _ =>
        show q_i τ1 1 5 = s2 8526
        rw [x15, hn 8526 (by omega)]
        exact hC.1 (0, 1, 0) ⟨by decide, rfl⟩
      | 2, _ =>
        show q_i τ1 1 6 = s2 8527
        rw [x16]; exact h27.symm
      | 3, _ =>
        show q_i τ1 2 5 = s2 8522
        rw [hx 2 (by omega), hn 8522 (by omega)]
        exact hC.1 (0, 3, 0) ⟨by decide, rfl⟩
      | 4, _ =>
        show q_i τ1 2 6 = s2 8528
        rw [hx 2 (by omega), hn 8528 (by omega)]
        exact hC.1 (0, 4, 0) ⟨by decide, rfl⟩
      | 5, _ =>
        show q_i τ1 9 5 = s2 8523
        rw [x9]; exact h23.symm
      | 6, _ =>
        show q_i τ1 15 3 = s2 8524
        rw [hx 15 (by omega), hn 8524 (by omega)]
        exact hC.1 (0, 6, 0) ⟨by decide, rfl⟩
    | 1, h =>
      have h : c < N s2 8522 ∧ j = 0 := h
      rw [hN 8522 (by omega)] at h
      obtain ⟨g1, rfl⟩ := h
      show q_i τ1 3 c = s2 (c)
      rw [hx 3 (by omega), hn (c) (by omega)]
      exact hC.1 (1, c, 0) ⟨g1, rfl⟩
    | 2, h =>
      have h : c < N s2 8522 ∧ j = 0 := h
      rw [hN 8522 (by omega)] at h
      obtain ⟨g1, rfl⟩ := h
      show q_i τ1 4 c = s2 (100 + c)
      rw [hx 4 (by omega), hn (100 + c) (by omega)]
      exact hC.1 (2, c, 0) ⟨g1, rfl⟩
    | 3, h =>
      have h : c < N s2 8522 ∧ j = 0 := h
      rw [hN 8522 (by omega)] at h
      obtain ⟨g1, rfl⟩ := h
      show q_i τ1 6 c = s2 (200 + c)
      rw [hx 6 (by omega), hn (200 + c) (by omega)]
      exact hC.1 (3, c, 0) ⟨g1, rfl⟩
    | 4, h =>
      have h : c < N s2 8522 ∧ j = 0 := h
      rw [hN 8522 (by omega)] at h
      obtain ⟨g1, rfl⟩ := h
      show q_i τ1 7 c = s2 (300 + c)
      rw [hx 7 (by omega), hn (300 + c) (by omega)]
      exact hC.1 (4, c, 0) ⟨g1, rfl⟩
    | 5, h =>
      have h : c < N s2 8522 ∧ j < N s2 (100 + c) := h
      rw [hN 8522 (by omega)] at h
      obtain ⟨g1, g2⟩ := h
      rw [hN (100 + c) (by omega)] at g2
      have g3 := b6 c g1
      show q_i τ1 5 (c * 18 + j) = s2 (400 + 18 * c + j)
      rw [hx 5 (by omega), hn (400 + 18 * c + j) (by omega)]
      exact hC.1 (5, c, j) ⟨g1, g2⟩
    | 6, h =>
      have h : c = 0 ∧ j < N s2 8528 := h
      rw [hN 8528 (by omega)] at h
      obtain ⟨rfl, g2⟩ := h
      show q_i τ1 8 j = s2 (8504 + j)
      rw [hx 8 (by omega), hn (8504 + j) (by omega)]
      exact hC.1 (6, 0, j) ⟨rfl, g2⟩
    | 7, h =>
      have h : c < N s2 8523 ∧ j = 0 := h
      rw [e23] at h
      obtain ⟨g1, rfl⟩ := h
      show q_i τ1 10 c = s2 (2200 + c)
      rw [x10, upd_at]
      by_cases e : c = c0
      · rw [if_pos e, e]; exact hlen.symm
      · rw [if_neg e, hn (2200 + c) (by omega)]
        exact hC.1 (7, c, 0) ⟨by show c < N s 8523; omega, rfl⟩
    | 8, h =>
      have h : c < N s2 8523 ∧ j = 0 := h
      rw [e23] at h
      obtain ⟨g1, rfl⟩ := h
      show q_i τ1 12 c = s2 (4100 + c)
      rw [x12, upd_at]
      by_cases e : c = c0
      · rw [if_pos e, e]; exact hhold.symm
      · rw [if_neg e, hn (4100 + c) (by omega)]
        exact hC.1 (8, c, 0) ⟨by show c < N s 8523; omega, rfl⟩
    | 9, h =>
      have h : c < N s2 8523 ∧ j < N s2 (2200 + c) := h
      rw [e23] at h
      obtain ⟨g1, g2⟩ := h
      show q_i τ1 11 (c * 18 + j) = s2 (2300 + 18 * c + j)
      rw [x11]
      by_cases e : c = c0
      · rw [e] at g2 ⊢
        rw [el] at g2
        rw [patN_in g2, hcut j g2]
      · rw [hN (2200 + c) (by omega)] at g2
        have g3 := b7 c (by omega)
        rw [patN_out (by omega), hn (2300 + 18 * c + j) (by omega)]
        exact hC.1 (9, c, j) ⟨by show c < N s 8523; omega, g2⟩
    | 10, h =>
      have h : c < N s2 8524 ∧ j = 0 := h
      rw [hN 8524 (by omega)] at h
      obtain ⟨g1, rfl⟩ := h
      show q_i τ1 16 c = s2 (4200 + c)
      rw [hx 16 (by omega), hn (4200 + c) (by omega)]
      exact hC.1 (10, c, 0) ⟨g1, rfl⟩
    | 11, h =>
      have h : c < N s2 8524 ∧ j = 0 := h
      rw [hN 8524 (by omega)] at h
      obtain ⟨g1, rfl⟩ := h
      show q_i τ1 17 c = s2 (4212 + c)
      rw [hx 17 (by omega), hn (4212 + c) (by omega)]
      exact hC.1 (11, c, 0) ⟨g1, rfl⟩
    | 12, h =>
      have h : c < N s2 8524 ∧ j < N s2 (4212 + c) := h
      rw [hN 8524 (by omega)] at h
      obtain ⟨g1, g2⟩ := h
      rw [hN (4212 + c) (by omega)] at g2
      have g3 := b8 c g1
      show q_i τ1 18 (c * 20 + j) = s2 (4224 + 20 * c + j)
      rw [hx 18 (by omega), hn (4224 + 20 * c + j) (by omega)]
      exact hC.1 (12, c, j) ⟨g1, g2⟩
    | 13, h =>
      have h : c < N s2 8525 ∧ j = 0 := h
      rw [hN 8525 (by omega)] at h
      obtain ⟨g1, rfl⟩ := h
      show q_i τ1 19 c = s2 (4464 + c)
      rw [hx 19 (by omega), hn (4464 + c) (by omega)]
      exact hC.1 (13, c, 0) ⟨g1, rfl⟩
    | t + 14, h => exact h.elim
  · rw [e23] at hk
    show wishOf (q_l τ1 13 k) (q_l τ1 14 k) d = _
    rw [hl13, hl14]
    by_cases e : k = c0
    · rw [e, hwish d hd, show vp_updL (q_l τ 13) c0 0 c0 = 0 from if_pos rfl, show vp_updL (q_l τ 14) c0 0 c0 = 0 from if_pos rfl]
      unfold wishOf
      rw [Int64.zero_and]
      rfl
    · rw [hn (4504 + 40 * k + d) (by omega), show vp_updL (q_l τ 13) c0 0 k = q_l τ 13 k from if_neg e, show vp_updL (q_l τ 14) c0 0 k = q_l τ 14 k from if_neg e]
      exact hC.2 k d (by omega) hd
/-- both sides of a new key -/
theorem J_newK {τ τ7 τr τ0 τ1 τs τ8 τ2 τ3 : kT} {c n b : Nat} {cut : Nat → Nat} {f : Nat → Int32} (hJ : J τ) (e7 : τ7 = q_si τ 0 3 (q_i τ 0 3 + 1)) (hr : remP τ7 τr) (hcN : N (q_i τ 67) 8523 = c) (hc : c < 100) (hbN : N (q_i τ 67) 8527 = b + 1) (hn : n ≤ 18) (hf : ∀ j, j < n → f j = nI (cut j) ∧ cut j ≤ 9) (e0 : τ0 = q_si τr 1 6 (nI b)) (hK : NK τ0 τ1 c n f) (hs : τs = q_si τ1 0 4 0) (e8 : τ8 = q_si τs 66 3 (q_i τs 66 3 + 1)) (e2 : τ2 = q_si (q_wi τ8 68 (q_i τ8 67)) 66 2 1) (hW : W1 67 τ2 τ3 (patN (newK (q_i τ 67) c (nI n) (nI b)) (2300 + 18 * c) f n)) : J (q_si τ3 66 4 0) := by
  obtain ⟨-, -, -, -, -, ⟨s3, s4, s5⟩, -⟩ := id hJ
  obtain ⟨τk, hE, hW1⟩ := hK
  have g0 : ∀ x, 1 ≤ x → x < 20 → q_i τr x = q_i τ x := fun x h1 h2 => by
    rw [hr.1 x (by omega) (by omega), e7, q_i_si, if_neg (by omega)]
  have gl0 : ∀ x, x < 20 → q_l τr x = q_l τ x := fun x h2 => by
    rw [hr.2.1 x (by omega), e7]; rfl
  have gk : ∀ x, x ≠ 1 → x ≠ 9 → x ≠ 10 → x ≠ 11 → x ≠ 12 → q_i τ1 x = q_i τr x := fun x n1 n9 n10 n11 n12 => by
    rw [hW1.1 x n11, hE.1 x n9 n10 n12, e0, q_i_si, if_neg n1]
  have gkl : ∀ x, x ≠ 13 → x ≠ 14 → q_l τ1 x = q_l τr x := fun x n13 n14 => by
    rw [hW1.2.1 x, hE.2.1 x n13 n14, e0]; rfl
  have w1 : WR τr τ1 := ⟨fun x hx => gk x (by omega) (by omega) (by omega) (by omega) (by omega), fun x hx => gkl x (by omega) (by omega)⟩
  have ks : ∀ x, x ≠ 0 → x ≠ 66 → q_i τ8 x = q_i τ1 x := fun x h0 h6 => by rw [e8, q_i_si, if_neg h6, hs, q_i_si, if_neg h0]
  have er : ∀ x, 39 ≤ x → x ≠ 66 → q_i τ8 x = q_i τ x := fun x hx h6 => by
    rw [ks x (by omega) h6, w1.1 x (by omega), hr.1 x (by omega) (by omega), e7, q_i_si, if_neg (by omega)]
  have e66 : q_i τs 66 = q_i τ 66 := by
    rw [hs, q_i_si, if_neg (by decide), w1.1 66 (by decide), hr.1 66 (by decide) (by decide), e7, q_i_si, if_neg (by decide)]
  have hR8 := (refW_of e2 hW).well
  have e866 : q_i τ8 66 = upd (q_i τ 66) 3 (q_i τ 66 3 + 1) := by rw [e8, q_i_si, if_pos rfl, e66]
  rw [e866] at hR8
  have hR : refW τs (q_si τ3 66 4 0) (patN (newK (q_i τ 67) c (nI n) (nI b)) (2300 + 18 * c) f n) (upd (upd (upd (q_i τ 66) 3 (q_i τ 66 3 + 1)) 2 1) 4 0) := by
    obtain ⟨p1, p2, p3, p4, p5, p6⟩ := hR8
    refine ⟨fun x hx => ?_, fun x hx => ?_, p3, ?_, p5, ?_⟩
    · rw [p1 x hx, e8, q_i_si, if_neg (by omega)]
    · rw [p2 x hx, e8]; rfl
    · rw [p4, e8]; rfl
    · rw [p6, e8]; rfl
  obtain ⟨n1, n2, n3, n4, n5, n6, n7⟩ := newK_n (s := q_i τ 67) (c := c) (n := n) (v := nI n) (b := nI b) (f := f) hc hn
  have x1 : q_i τ1 1 = upd (q_i τ 1) 6 (nI b) := by
    rw [hW1.1 1 (by decide), hE.1 1 (by decide) (by decide) (by decide), e0, q_i_si, if_pos rfl, g0 1 (by decide) (by decide)]
  have k0 : ∀ x, x ≠ 1 → 1 ≤ x → x < 20 → q_i τ0 x = q_i τ x := fun x h1 h2 h3 => by
    rw [e0, q_i_si, if_neg h1, g0 x h2 h3]
  refine J_mul (τr := τr) (τ1 := τ1) (τs := τs) (f := upd (upd (upd (q_i τ 0) 3 (q_i τ 0 3 + 1)) 2 1) 4 0) hJ (fun x h0 h20 => ?_) ?_ w1 ⟨fun x hx => by rw [hs, q_i_si, if_neg hx], fun _ => by rw [hs]; rfl⟩ ?_ hR ⟨rfl, rfl, ?_, rfl, s5, rfl, rfl, rfl⟩ ?_ ?_ (fun k hk => ?_)
  · rw [hr.1 x h0 h20, e7, q_i_si, if_neg h0]
  · have := hr.2.2.2
    rw [e7] at this
    exact this
  · rw [hs, q_i_si, if_pos rfl, w1.1 0 (by decide), hr.2.2.1, e7]; rfl
  · show q_i τ 66 3 + 1 = q_i τ 0 3 + 1
    rw [s3]
  · exact inv_newk hJ.1 c n b f cut hcN hc hbN n2 n3 n4 hn n5 n6 n7 hf n1
  · refine corr_newk hJ.1 hJ.2.1 c n b f cut hcN hc hbN n2 n3 n4 hn n5 n6 n7 hf (by rw [x1]; rfl) (by rw [x1]; rfl) (by rw [x1]; rfl) ?_ ?_ ?_ ?_ n1 (fun x hx => ?_) ?_ ?_
    · rw [hW1.1 9 (by decide)]; exact hE.2.2.1
    · rw [hW1.1 10 (by decide), hE.2.2.2.1, k0 10 (by decide) (by decide) (by decide)]
    · rw [hW1.1 12 (by decide), hE.2.2.2.2.1, k0 12 (by decide) (by decide) (by decide)]
    · rw [hW1.2.2, k0 11 (by decide) (by decide) (by decide)]
    · rw [gk x (by omega) (by omega) (by omega) (by omega) (by omega), g0 x (by omega) (by omega)]
    · rw [hW1.2.1, hE.2.2.2.2.2.1, e0, q_l_si, gl0 13 (by decide)]
    · rw [hW1.2.1, hE.2.2.2.2.2.2, e0, q_l_si, gl0 14 (by decide)]
  · rw [n1 k (by omega)]; exact (hJ.hz k hk).1
theorem e_met3 {τ τ1 τ2 : kT} {f : Int32} (h : J τ) (e1 : τ1 = q_si (q_si (q_si τ 0 3 (q_i τ 0 3 + 1)) 0 4 f) 0 5 (q_i (q_si τ 0 3 (q_i τ 0 3 + 1)) 0 5 + 1)) (e2 : τ2 = q_si τ1 66 3 (q_i τ1 66 3 + 1)) : J (q_si (q_si τ2 66 4 f) 66 5 (q_i τ2 66 5 + 1)) := by
  subst e1
  subst e2
  obtain ⟨-, -, -, -, -, ⟨s3, s4, s5⟩, a6, a7, a8, -⟩ := id h
  refine h.keep ⟨fun x h1 h2 => ?_, fun x _ _ => rfl, rfl, rfl⟩ ⟨rfl, rfl⟩ ⟨?_, rfl, ?_⟩ a6 a7 a8
  · simp only [q_i_si, show x ≠ 0 by omega, show x ≠ 66 by omega, if_false]
  · show q_i τ 66 3 + 1 = q_i τ 0 3 + 1
    rw [s3]
  · show q_i τ 66 5 + 1 = q_i τ 0 5 + 1
    rw [s5]
theorem J.tries {τ : kT} (h : J τ) : JB (q_si τ 0 3 (q_i τ 0 3 + 1)) := ⟨h.1, h.2.1.congr (fun x hx => by rw [q_i_si, if_neg (by omega)]) ⟨rfl, rfl⟩, trivial⟩
theorem s_refusal {τ : kT} {nk bl : Nat} {post : Int32 → kT → Prop} (k1 : q_i τ 9 5 = nI nk) (hnk : nk ≤ 100) (l1 : q_i τ 1 6 = nI bl) (hbl : bl ≤ 1000) (h4 : nk = 100 → post (-4) τ) (h3 : nk < 100 → bl = 0 → post (-3) τ) (h0 : nk < 100 → 0 < bl → post 0 τ) : T_X10_cuttingRefusal τ post := by
  unfold T_X10_cuttingRefusal
  rw [k1, l1]
  by_cases q : nk < 100
  · refine br_t (nI_lt (b := 100) q (by decide)) ?_
    by_cases q2 : bl = 0
    · exact bn_f (by rw [q2]; rfl) (h3 q q2)
    · exact bn_t (fun y => q2 ((nI_eq (b := 0) (by omega) (by decide)).mp y)) (h0 q (by omega))
  · exact br_f (nI_nlt (b := 100) (by omega) (by omega)) (h4 (by omega))
theorem r_refusal {τ : kT} {nk bl : Nat} {A B C : Prop} (k1 : q_i τ 67 8523 = nI nk) (hnk : nk ≤ 100) (l1 : q_i τ 67 8527 = nI bl) (hbl : bl ≤ 1000) (h4 : nk = 100 → C) (h3 : nk < 100 → bl = 0 → B) (h0 : nk < 100 → 0 < bl → A) : ((¬ (q_i τ 67 8523) = (100 : Int32) → ((¬ (q_i τ 67 8527) = 0 → A) ∧ ((q_i τ 67 8527) = 0 → B))) ∧ ((q_i τ 67 8523) = (100 : Int32) → C)) := by
  rw [k1, l1]
  by_cases q : nk = 100
  · exact bn_f (by rw [q]; rfl) (h4 q)
  · refine bn_t (fun y => q ((nI_eq (b := 100) (by omega) (by decide)).mp y)) ?_
    by_cases q2 : bl = 0
    · exact bn_f (by rw [q2]; rfl) (h3 (by omega) q2)
    · exact bn_t (fun y => q2 ((nI_eq (b := 0) (by omega) (by decide)).mp y)) (h0 (by omega) (by omega))
theorem k_key_op : K_key J := by
  intro a x τ hJ
  obtain ⟨nk, hnk, k1, k2, k3⟩ := hJ.nk
  obtain ⟨bl, hbl, l1, l2, l3⟩ := hJ.bl
  unfold T_X10_key T_X10_cutKey
  by_cases ha : (18 : Int32) < a
  · refine br_t ha (s_settle_bad (Or.inl rfl) ?_)
    unfold T_X11_key
    exact br_t ha ⟨rfl, hJ⟩
  refine br_f ha ?_
  have t0 : (0 : Int64).toInt = 0 := rfl
  have t9 : (999999999999999999 : Int64).toInt = 999999999999999999 := by decide
  have bad : ¬ (0 ≤ x.toInt ∧ x.toInt ≤ 999999999999999999) → T_X10_settle (-2) τ (fun r3 τ4 => T_X11_key a x τ4 (fun r2 τ2 => r3 = r2 ∧ J τ2)) := by
    intro h
    refine s_settle_bad (Or.inl rfl) ?_
    unfold T_X11_key
    exact br_f ha (s_in_f (by rw [t0, t9]; exact h) (bn_f rfl ⟨rfl, hJ⟩))
  by_cases h0 : 0 ≤ x.toInt
  case neg => exact br_t (by rw [s_cmp.1, t0]; omega) (bad (by omega))
  refine br_f (by rw [s_cmp.1, t0]; omega) ?_
  by_cases h9 : x.toInt ≤ 999999999999999999
  case neg => exact br_f (fun q => absurd (s_cmp.2.1.mpr (by rw [t9]; omega)) (Int32.not_lt.mpr q)) (bad (by omega))
  refine br_t (Int32.not_lt.mp (fun q => by rw [s_cmp.2.1, t9] at q; omega)) ?_
  have ri : ∀ {τ' : kT} {post : Int32 → kT → Prop}, q_i τ' 67 = q_i τ 67 → (nk = 100 → post (-4) τ') → (nk < 100 → bl = 0 → post (-3) τ') → (nk < 100 → 0 < bl → (∀ τ7 : kT, τ7 = q_si τ' 66 3 ((q_i τ' 66 3) + (1 : Int32)) → ((0 ≤ a → (T_X11_newKey a τ7 (fun r9 τ10 => (∃ m16 : Nat, L_X11_key_83  a x r9 (fun v17 v18 τ19 => (T_X11_well r9 τ19 (fun r20 τ21 => post r20 τ21))) post m16 x (0 : Int32) τ10)))) ∧ (¬ 0 ≤ a → (T_X11_met (5 : Int32) τ7 (fun r22 τ23 => post r22 τ23)))))) → T_X11_key a x τ' post := by
    intro τ' post e p4 p3 p0
    unfold T_X11_key
    exact br_f ha (s_in_t (by rw [t0, t9]; exact ⟨h0, h9⟩) (bn_t (by decide) (r_refusal (by rw [e]; exact k2) hnk (by rw [e]; exact l2) hbl p4 p3 p0)))
  refine s_refusal k1 hnk l1 hbl (fun q => br_f (by decide) (s_settle_bad (Or.inr (Or.inr rfl)) (ri rfl (fun _ => ⟨rfl, hJ⟩) (fun y => absurd q (by omega)) (fun y => absurd q (by omega))))) (fun q q2 => br_f (by decide) (s_settle_bad (Or.inr (Or.inl rfl)) (ri rfl (fun y => absurd y (by omega)) (fun _ _ => ⟨rfl, hJ⟩) (fun _ y => absurd y (by omega))))) (fun q q2 => br_t rfl (fun τ7 h7 => ?_))
  by_cases ha0 : 0 ≤ a
  case neg =>
    refine br_f ha0 (s_settle_met (f := 5) ⟨by decide, by decide⟩ ?_)
    subst h7
    refine ri rfl (fun y => absurd y (by omega)) (fun _ y => absurd y (by omega)) (fun _ _ τ8 h8 => br_f ha0 (s_met ⟨by decide, e_met3 hJ rfl h8⟩))
  obtain ⟨n, hn, rfl⟩ : inn a 19 := by
    rw [inn_iff (by decide)]
    rw [i_lt] at ha
    rw [i_le] at ha0
    have : (18 : Int32).toInt = 18 := rfl
    have : (0 : Int32).toInt = 0 := rfl
    omega
  refine br_t ha0 (s_rememberB (by rw [h7]; exact hJ.tries) (fun τr hr τ0 h0' => ?_))
  obtain ⟨b, rfl⟩ : ∃ b, bl = b + 1 := ⟨bl - 1, by omega⟩
  have gr : ∀ y, 1 ≤ y → y < 20 → q_i τr y = q_i τ y := fun y y1 y2 => by rw [hr.1 y (by omega) (by omega), h7, q_i_si, if_neg (by omega)]
  have h0' : τ0 = q_si τr 1 6 (nI b) := by
    rw [h0', gr 1 (by decide) (by decide), l1, show nI (b + 1) - 1 = nI b by rw [i_eq, i_m1 (by omega), nI_toInt (by omega)]; omega]
  refine c_addK (c := nk) (n := n) (by rw [h0', q_i_si, if_neg (by decide), gr 9 (by decide) (by decide)]; exact k1) q (by omega) (fun τ1 hK => s_settle_n (by omega) ?_)
  have er : ∀ y, 39 ≤ y → q_i (q_si τ1 0 4 0) y = q_i τ y := fun y hy => by
    obtain ⟨τk, hE, hW1⟩ := hK
    rw [q_i_si, if_neg (by omega), hW1.1 y (by omega), hE.1 y (by omega) (by omega) (by omega), h0', q_i_si, if_neg (by omega), hr.1 y (by omega) (by omega), h7, q_i_si, if_neg (by omega)]
  refine ri (er 67 (by decide)) (fun y => absurd y (by omega)) (fun _ y => absurd y (by omega)) (fun _ _ τ8 h8 => br_t ha0 ?_)
  have e67 : q_i τ8 67 = q_i τ 67 := by rw [h8, q_i_si, if_neg (by decide)]; exact er 67 (by decide)
  have e68 : q_i τ8 68 = q_i τ 68 := by rw [h8, q_i_si, if_neg (by decide)]; exact er 68 (by decide)
  refine r_newKey (c := nk) (b := b) (by rw [e67, e68]; exact hJ.hz) (by rw [e67]; exact k2) q (by rw [e67]; exact l2) (by omega) (fun τ2 τ3 e2 hW => ?_)
  rw [e67] at hW
  have key : ∀ m j τ4, j + m = n → W1 67 τ2 τ4 (patN (newK (q_i τ 67) nk (nI n) (nI b)) (2300 + 18 * nk) (dig x) j) → L_X11_key_83 (nI n) x (nI nk) (fun v17 v18 τ19 => (T_X11_well (nI nk) τ19 (fun r20 τ21 => nI nk = r20 ∧ J τ21))) (fun r20 τ21 => nI nk = r20 ∧ J τ21) (m + 1) (itd x j) (nI j) τ4 := by
    intro m
    induction m with
    | zero =>
      intro j τ4 hj hW4
      have hj : j = n := by omega
      subst hj
      unfold L_X11_key_83
      refine br_t (nI_le (Nat.le_refl _) (by omega)) (s_well ⟨rfl, ?_⟩)
      exact J_newK hJ h7 hr k3 q l3 (by omega) (fun i hi => dig_9 x h0 i) h0' hK rfl h8 e2 hW4
    | succ m ih =>
      intro j τ4 hj hW4
      unfold L_X11_key_83
      refine br_f (nI_ge (by omega) (by omega)) ⟨2300 + 18 * nk + j, ev_3 2300 18 nk j, by omega, fun τ14 h14 v15 h15 v16 h16 => ?_⟩
      rw [h14, h15, h16, show nI j + 1 = nI (j + 1) from nI_1 j]
      refine ih (j + 1) _ (by omega) ?_
      rw [← patN_1]
      exact hW4.set _ _
  refine ⟨n + 1, key n 0 τ3 (by omega) ?_⟩
  rw [patN_0]
  exact hW
theorem ev_t {k n j : Nat} (h : j < n) (hk : k < 100) (hn : n ≤ 18) : 2300 + 18 * nI k + nI n - 1 - nI j = nI (2300 + 18 * k + (n - 1 - j)) := by
  have e : (2300 : Int32) + 18 * nI k + nI n = nI (2300 + 18 * k + n) := ev_3 2300 18 k n
  rw [e, nI_sub1 (by omega) (by omega)]
  congr 1
  omega
theorem k_turned_op : K_turned J := by
  intro a a2 τ hJ
  obtain ⟨nk, hnk, k1, k2, k3⟩ := hJ.nk
  obtain ⟨bl, hbl, l1, l2, l3⟩ := hJ.bl
  unfold T_X10_turned T_X10_cutTurned
  by_cases hk : inn a nk
  case neg =>
    refine s_X5_has_f k1 (by omega) hk (br_t rfl (s_settle_bad (Or.inl rfl) ?_))
    unfold T_X11_turned
    exact s_X11_isKey_f k2 (by omega) hk (br_t rfl ⟨rfl, hJ⟩)
  obtain ⟨k, hk, rfl⟩ := hk
  refine s_X5_has_t k1 (by omega) hk (br_f (by decide) ?_)
  by_cases ha : a2 ≤ 18
  case neg =>
    refine br_f ha (s_settle_bad (Or.inl rfl) ?_)
    unfold T_X11_turned
    exact s_X11_isKey_t k2 (by omega) hk (br_f (by decide) (br_f ha ⟨rfl, hJ⟩))
  refine br_t ha ?_
  obtain ⟨⟨m1, m2⟩, -⟩ := hJ.1.2.2.2.2.2.2.2.2.2.2.1 k (by rw [k3]; exact hk)
  have x10 : q_i τ 10 k = nI (N (q_i τ 67) (2200 + k)) := (hJ.2.1.1 (7, k, 0) ⟨by rw [k3]; exact hk, rfl⟩).trans m1
  obtain ⟨l, el⟩ : ∃ l, N (q_i τ 67) (2200 + k) = l := ⟨_, rfl⟩
  rw [el] at m1 m2 x10
  have ri : ∀ {τ' : kT} {post : Int32 → kT → Prop}, q_i τ' 67 = q_i τ 67 → (nk = 100 → post (-4) τ') → (nk < 100 → bl = 0 → post (-3) τ') → (nk < 100 → 0 < bl → ∀ τ7 : kT, τ7 = q_si τ' 66 3 ((q_i τ' 66 3) + (1 : Int32)) → (¬ 0 ≤ a2 → T_X11_met (5 : Int32) τ7 post) ∧ (0 ≤ a2 → ¬ a2 ≤ nI l → T_X11_met (2 : Int32) τ7 post) ∧ (0 ≤ a2 → a2 ≤ nI l → (T_X11_newKey a2 τ7 (fun r16 τ17 => (∃ m23 : Nat, L_X11_turned_98 (nI k) a2 r16 (fun v24 τ25 => (T_X11_well r16 τ25 (fun r26 τ27 => post r26 τ27))) post m23 (0 : Int32) τ17))))) → T_X11_turned (nI k) a2 τ' post := by
    intro τ' post e p4 p3 p0
    unfold T_X11_turned
    refine s_X11_isKey_t (by rw [e]; exact k2) (by omega) hk (br_f (by decide) (br_t ha (r_refusal (by rw [e]; exact k2) hnk (by rw [e]; exact l2) hbl p4 p3 (fun q1 q2 τ7 h7 => ?_))))
    obtain ⟨z1, z2, z3⟩ := p0 q1 q2 τ7 h7
    have e7 : q_i τ7 67 (2200 + k) = nI l := by
      rw [h7]
      show q_i τ' 67 (2200 + k) = _
      rw [e]; exact m1
    by_cases q : a2 < 0
    · have q' : ¬ 0 ≤ a2 := Int32.not_le.mpr q
      exact br_t q (br_f q' (z1 q'))
    · have q' : 0 ≤ a2 := Int32.not_lt.mp q
      refine br_f q ⟨2200 + k, nI_add 2200 k, by omega, ?_⟩
      rw [e7]
      exact ⟨fun y => z3 q' y, fun y => br_t q' (z2 q' y)⟩
  refine s_refusal k1 hnk l1 hbl (fun q => br_f (by decide) (s_settle_bad (Or.inr (Or.inr rfl)) (ri rfl (fun _ => ⟨rfl, hJ⟩) (fun y => absurd q (by omega)) (fun y => absurd q (by omega))))) (fun q q2 => br_f (by decide) (s_settle_bad (Or.inr (Or.inl rfl)) (ri rfl (fun y => absurd y (by omega)) (fun _ _ => ⟨rfl, hJ⟩) (fun _ y => absurd y (by omega))))) (fun q q2 => br_t rfl (fun τ7 h7 => ?_))
  by_cases ha0 : 0 ≤ a2
  case neg =>
    refine br_f ha0 (s_settle_met (f := 5) ⟨by decide, by decide⟩ ?_)
    subst h7
    refine ri rfl (fun y => absurd y (by omega)) (fun _ y => absurd y (by omega)) (fun _ _ τ8 h8 => ⟨fun _ => s_met ⟨by decide, e_met3 hJ rfl h8⟩, fun y => absurd y ha0, fun y => absurd y ha0⟩)
  obtain ⟨n, hn, rfl⟩ : inn a2 19 := by
    rw [inn_iff (by decide)]
    rw [i_le] at ha ha0
    have : (18 : Int32).toInt = 18 := rfl
    have : (0 : Int32).toInt = 0 := rfl
    omega
  have e710 : q_i τ7 10 k = nI l := by rw [h7, q_i_si, if_neg (by decide)]; exact x10
  refine br_t ha0 ⟨k, rfl, by omega, ?_⟩
  rw [e710]
  by_cases hnl : n ≤ l
  case neg =>
    have hnl' : ¬ nI n ≤ nI l := nI_ge (by omega) (by omega)
    refine br_f hnl' (s_settle_met (f := 2) ⟨by decide, by decide⟩ ?_)
    subst h7
    refine ri rfl (fun y => absurd y (by omega)) (fun _ y => absurd y (by omega)) (fun _ _ τ8 h8 => ⟨fun y => absurd ha0 y, fun _ _ => s_met ⟨by decide, e_met3 hJ rfl h8⟩, fun _ y => absurd y hnl'⟩)
  have hnl' : nI n ≤ nI l := nI_le hnl (by omega)
  refine br_t hnl' (s_rememberB (by rw [h7]; exact hJ.tries) (fun τr hr τ0 h0' => ?_))
  obtain ⟨b, rfl⟩ : ∃ b, bl = b + 1 := ⟨bl - 1, by omega⟩
  have gr : ∀ y, 1 ≤ y → y < 20 → q_i τr y = q_i τ y := fun y y1 y2 => by rw [hr.1 y (by omega) (by omega), h7, q_i_si, if_neg (by omega)]
  have h0' : τ0 = q_si τr 1 6 (nI b) := by
    rw [h0', gr 1 (by decide) (by decide), l1, show nI (b + 1) - 1 = nI b by rw [i_eq, i_m1 (by omega), nI_toInt (by omega)]; omega]
  have g0 : ∀ y, y ≠ 1 → 1 ≤ y → y < 20 → q_i τ0 y = q_i τ y := fun y h1 h2 h3 => by rw [h0', q_i_si, if_neg h1, gr y h2 h3]
  refine c_addT (c := nk) (n := n) (k := k) (l := l) (f := fun j => q_i τ 67 (2300 + 18 * k + (n - 1 - j))) (by rw [g0 9 (by decide) (by decide) (by decide)]; exact k1) q (by omega) hk (by rw [g0 10 (by decide) (by decide) (by decide)]; exact x10) m2 hnl (fun j hj => ?_) (fun τ1 hK => s_settle_n (by omega) ?_)
  · rw [g0 11 (by decide) (by decide) (by decide)]
    exact hJ.2.1.1 (9, k, n - 1 - j) ⟨by rw [k3]; exact hk, by show n - 1 - j < N (q_i τ 67) (2200 + k); rw [el]; omega⟩
  have er : ∀ y, 39 ≤ y → q_i (q_si τ1 0 4 0) y = q_i τ y := fun y hy => by
    obtain ⟨τk, hE, hW1⟩ := hK
    rw [q_i_si, if_neg (by omega), hW1.1 y (by omega), hE.1 y (by omega) (by omega) (by omega), h0', q_i_si, if_neg (by omega), hr.1 y (by omega) (by omega), h7, q_i_si, if_neg (by omega)]
  refine ri (er 67 (by decide)) (fun y => absurd y (by omega)) (fun _ y => absurd y (by omega)) (fun _ _ τ8 h8 => ⟨fun y => absurd ha0 y, fun _ y => absurd hnl' y, fun _ _ => ?_⟩)
  have e67 : q_i τ8 67 = q_i τ 67 := by rw [h8, q_i_si, if_neg (by decide)]; exact er 67 (by decide)
  have e68 : q_i τ8 68 = q_i τ 68 := by rw [h8, q_i_si, if_neg (by decide)]; exact er 68 (by decide)
  refine r_newKey (c := nk) (b := b) (by rw [e67, e68]; exact hJ.hz) (by rw [e67]; exact k2) q (by rw [e67]; exact l2) (by omega) (fun τ2 τ3 e2 hW => ?_)
  rw [e67] at hW
  have key : ∀ m j τ4, j + m = n → W1 67 τ2 τ4 (patN (newK (q_i τ 67) nk (nI n) (nI b)) (2300 + 18 * nk) (fun j => q_i τ 67 (2300 + 18 * k + (n - 1 - j))) j) → L_X11_turned_98 (nI k) (nI n) (nI nk) (fun v24 τ25 => (T_X11_well (nI nk) τ25 (fun r20 τ21 => nI nk = r20 ∧ J τ21))) (fun r20 τ21 => nI nk = r20 ∧ J τ21) (m + 1) (nI j) τ4 := by
    intro m
    induction m with
    | zero =>
      intro j τ4 hj hW4
      have hj : j = n := by omega
      subst hj
      unfold L_X11_turned_98
      refine br_t (nI_le (Nat.le_refl _) (by omega)) (s_well ⟨rfl, ?_⟩)
      refine J_newK (cut := fun i => N (q_i τ 67) (2300 + 18 * k + (j - 1 - i))) hJ h7 hr k3 q l3 (by omega) (fun i hi => ?_) h0' hK rfl h8 e2 hW4
      exact hJ.1.2.2.2.2.2.2.2.2.2.2.2.1 k (j - 1 - i) (by rw [k3]; exact hk) (by rw [el]; omega)
    | succ m ih =>
      intro j τ4 hj hW4
      unfold L_X11_turned_98
      refine br_f (nI_ge (by omega) (by omega)) ⟨2300 + 18 * k + (n - 1 - j), ev_t (by omega) (by omega) (by omega), by omega, 2300 + 18 * nk + j, ev_3 2300 18 nk j, by omega, fun τ14 h14 v15 h15 => ?_⟩
      have rd : q_i τ4 67 (2300 + 18 * k + (n - 1 - j)) = q_i τ 67 (2300 + 18 * k + (n - 1 - j)) := by
        rw [hW4.2.2, patN_out (by omega)]
        unfold newK
        rw [fillN_out (by omega), upd_ne (by omega), upd_ne (by omega), upd_ne (by omega), upd_ne (by omega)]
      rw [h14, h15, rd, show nI j + 1 = nI (j + 1) from nI_1 j]
      refine ih (j + 1) _ (by omega) ?_
      have := hW4.set (2300 + 18 * nk + j) (q_i τ 67 (2300 + 18 * k + (n - 1 - j)))
      rw [patN_1 _ _ (fun j => q_i τ 67 (2300 + 18 * k + (n - 1 - j)))] at this
      exact this
  refine ⟨n + 1, key n 0 τ3 (by omega) ?_⟩
  rw [patN_0]
  exact hW
