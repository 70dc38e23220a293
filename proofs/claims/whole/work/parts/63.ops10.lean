/-! ===== what the reference has written behind change() ===== -/
theorem refW_of {τ τ2 τ3 : kT} {g : Nat → Int32} (e2 : τ2 = q_si (q_wi τ 68 (q_i τ 67)) 66 2 1) (hW : W1 67 τ2 τ3 g) : refW τ τ3 g (upd (q_i τ 66) 2 1) := by
  obtain ⟨w1, w2, w3⟩ := hW
  refine ⟨fun x hx => ?_, fun x hx => ?_, w3, ?_, ?_, ?_⟩
  · rw [w1 x (by omega), e2, q_i_si, if_neg (by omega), q_i_wi, if_neg (by omega)]
  · rw [w2, e2]; rfl
  · rw [w1 68 (by decide), e2]; rfl
  · rw [w1 66 (by decide), e2]; rfl
  · rw [w1 69 (by decide), e2]; rfl
theorem refW.well {τ τ3 : kT} {s g : Nat → Int32} (h : refW τ τ3 s g) : refW τ (q_si τ3 66 4 0) s (upd g 4 0) := by
  obtain ⟨w1, w2, w3, w4, w5, w6⟩ := h
  refine ⟨fun x hx => ?_, fun x hx => ?_, ?_, ?_, ?_, ?_⟩
  · rw [q_i_si, if_neg (by omega)]; exact w1 x hx
  · exact w2 x hx
  · exact w3
  · exact w4
  · rw [q_i_si, if_pos rfl, w5]
  · exact w6
/-- behind remember(), writes of the class, settle with a number, change(), writes, well -/
theorem J_mulW {τ τr τ1 τ2 : kT} {s' : Nat → Int32} (hJ : J τ) (hr : remP τ τr) (hw : WR τr τ1) (hR : refW (q_si τ1 0 4 0) τ2 s' (upd (upd (q_i τ 66) 2 1) 4 0)) (hI : InvS s') (hC : Corr τ1 1 s') (hz : ∀ k, 8530 ≤ k → s' k = 0) : J τ2 := by
  obtain ⟨-, -, -, -, -, ⟨s3, s4, s5⟩, -⟩ := id hJ
  refine J_mul (τr := τr) (τ1 := τ1) (τs := q_si τ1 0 4 0) (f := upd (upd (q_i τ 0) 2 1) 4 0) hJ (fun x h0 h20 => hr.1 x h0 h20) hr.2.2.2 hw ⟨fun x hx => by rw [q_i_si, if_neg hx], fun _ => rfl⟩ ?_ hR ⟨rfl, rfl, s3, rfl, s5, rfl, rfl, rfl⟩ hI hC hz
  rw [q_i_si, if_pos rfl, hw.1 0 (by decide), hr.2.2.1]
theorem J_mulN {τ τr τ1 τ2 : kT} {s' : Nat → Int32} (hJ : J τ) (hr : remP τ τr) (hw : WR τr τ1) (hR : refW τ1 τ2 s' (upd (q_i τ 66) 2 1)) (hI : InvS s') (hC : Corr τ1 1 s') (hz : ∀ k, 8530 ≤ k → s' k = 0) : J τ2 := by
  obtain ⟨-, -, -, -, -, ⟨s3, s4, s5⟩, -⟩ := id hJ
  refine J_mul (τr := τr) (τ1 := τ1) (τs := τ1) (f := upd (q_i τ 0) 2 1) hJ (fun x h0 h20 => hr.1 x h0 h20) hr.2.2.2 hw ⟨fun x hx => rfl, fun _ => rfl⟩ ?_ hR ⟨rfl, rfl, s3, s4, s5, rfl, rfl, rfl⟩ hI hC hz
  rw [hw.1 0 (by decide), hr.2.2.1]
theorem remP.g {τ τr : kT} (hr : remP τ τr) {x : Nat} (h1 : 1 ≤ x) (h2 : x < 20) : q_i τr x = q_i τ x := hr.1 x (by omega) (by omega)
theorem remP.gl {τ τr : kT} (hr : remP τ τr) {x : Nat} (h2 : x < 20) : q_l τr x = q_l τ x := hr.2.1 x (by omega)
/-- what the reference reads behind the class's writes -/
theorem WR.e {τ τr τ1 : kT} (hr : remP τ τr) (hw : WR τr τ1) {x : Nat} (h : 39 ≤ x) : q_i τ1 x = q_i τ x := by rw [hw.1 x (by omega), hr.1 x (by omega) (by omega)]
/-! cabinet -/
theorem inv_newb {s s2 : Nat → Int32} (h : InvS s) (c0 kd n : Nat) (hc0 : N s 8524 = c0) (hc9 : c0 < 12) (h24 : s2 8524 = nI (c0 + 1)) (hk : s2 (4200 + c0) = nI kd) (hkd : kd ≤ 4) (hr : s2 (4212 + c0) = nI n) (hn20 : n ≤ 20) (hh : ∀ j, j < 20 → s2 (4224 + 20 * c0 + j) = -1) (hn : ∀ i, i ≠ 8524 ∧ i ≠ 4200 + c0 ∧ i ≠ 4212 + c0 ∧ ¬ (4224 + 20 * c0 ≤ i ∧ i < 4244 + 20 * c0) → s2 i = s i) : InvS s2 := by
  obtain ⟨h1, h2, h3, h4, h5, h6, h7, h8, h9, h10, h11, h12, h13, h14, h15, h16⟩ := id h
  obtain ⟨b1, b2, b3, b4, b5, b6, b7, b8⟩ := h.bnd
  have hN : ∀ i, i ≠ 8524 ∧ i ≠ 4200 + c0 ∧ i ≠ 4212 + c0 ∧ ¬ (4224 + 20 * c0 ≤ i ∧ i < 4244 + 20 * c0) → N s2 i = N s i := fun i q => by unfold N; rw [hn i q]
  have e24 : N s2 8524 = c0 + 1 := by unfold N; rw [h24, nI_clamp (by omega)]
  have er : N s2 (4212 + c0) = n := by unfold N; rw [hr, nI_clamp (by omega)]
  refine ⟨?_, ?_, ?_, ?_, ?_, ?_, ?_, ?_, ?_, ?_, ?_, ?_, ?_, ?_, ?_, ?_⟩
  · rw [hN 8522 (by omega), hn 8522 (by omega)]; exact h1
  · rw [hN 8523 (by omega), hn 8523 (by omega)]; exact h2
  · rw [e24]; exact ⟨h24, by omega⟩
  · rw [hN 8525 (by omega), hn 8525 (by omega)]; exact h4
  · rw [hN 8526 (by omega), hn 8526 (by omega)]; exact h5
  · rw [hN 8527 (by omega), hn 8527 (by omega)]; exact h6
  · rw [hn 8528 (by omega)]; exact h7
  · intro c hc
    rw [hN 8522 (by omega)] at hc
    obtain ⟨p1, p2, p3, p4, p5, p6⟩ := h8 c hc
    refine ⟨by rw [hN c (by omega), hn c (by omega)]; exact p1, by rw [hn (100 + c) (by omega)]; exact p2, by rw [hn (100 + c) (by omega), hn c (by omega)]; exact p3, by rw [hn (100 + c) (by omega), hn c (by omega)]; exact p4, ?_, ?_⟩
    · rw [hn (200 + c) (by omega)]; exact p5.imp id (fun ⟨x, ⟨x1, x2⟩, x3⟩ => ⟨x, ⟨by rw [hN 8522 (by omega)]; exact x1, by rw [hn x (by omega)]; exact x2⟩, x3⟩)
    · rw [hn (300 + c) (by omega)]; exact p6.imp id (fun ⟨x, ⟨x1, x2⟩, x3⟩ => ⟨x, ⟨by rw [hN 8522 (by omega)]; exact x1, by rw [hn x (by omega)]; exact x2⟩, x3⟩)
  · intro c j hc hj
    rw [hN 8522 (by omega)] at hc
    rw [hN (400 + 18 * c + j) (by omega), hn (400 + 18 * c + j) (by omega), hN c (by omega), hN (100 + c) (by omega)]
    exact h9 c j hc hj
  · intro q j hj
    rw [hn 8528 (by omega)] at q
    rw [hN (8504 + j) (by omega), hn (8504 + j) (by omega), hN 8528 (by omega)]
    exact h10 q j hj
  · intro k hk
    rw [hN 8523 (by omega)] at hk
    rw [hN (2200 + k) (by omega), hn (2200 + k) (by omega), hn (4100 + k) (by omega), hN 8526 (by omega)]
    exact h11 k hk
  · intro k i2 hk hi2
    rw [hN 8523 (by omega)] at hk
    rw [hN (2200 + k) (by omega)] at hi2
    have hl := (h11 k hk).1.2
    rw [hN (2300 + 18 * k + i2) (by omega), hn (2300 + 18 * k + i2) (by omega)]
    exact h12 k i2 hk hi2
  · intro k d hk hd
    rw [hN 8523 (by omega)] at hk
    rw [hN 8525 (by omega), hn (4504 + 40 * k + d) (by omega)]
    exact h13 k d hk hd
  · intro c hc
    rw [e24] at hc
    by_cases e : c = c0
    · rw [e, er, hr, hk, show N s2 (4200 + c0) = kd by unfold N; rw [hk, nI_clamp (by omega)]]
      exact ⟨⟨rfl, hkd⟩, rfl, hn20⟩
    · rw [hN (4200 + c) (by omega), hn (4200 + c) (by omega), hN (4212 + c) (by omega), hn (4212 + c) (by omega)]
      exact h14 c (by omega)
  · intro c p hc hp
    rw [e24] at hc
    by_cases e : c = c0
    · rw [e] at hp ⊢
      rw [er] at hp
      rw [hh p (by omega)]
      exact Or.inl rfl
    · rw [hN (4212 + c) (by omega)] at hp
      have hl := (h14 c (by omega)).2.2
      rw [hn (4224 + 20 * c + p) (by omega), hN 8522 (by omega)]
      exact h15 c p (by omega) hp
  · intro d hd
    rw [hN 8525 (by omega)] at hd
    rw [hn (4464 + d) (by omega), hN 8522 (by omega)]
    exact h16 d hd
theorem corr_newb {τ τ1 : kT} {s s2 : Nat → Int32} (hI : InvS s) (hC : Corr τ 1 s) (c0 kd n : Nat) (hc0 : N s 8524 = c0) (hc9 : c0 < 12) (h24 : s2 8524 = nI (c0 + 1)) (hk : s2 (4200 + c0) = nI kd) (hkd : kd ≤ 4) (hr : s2 (4212 + c0) = nI n) (hn20 : n ≤ 20) (hh : ∀ j, j < 20 → s2 (4224 + 20 * c0 + j) = -1) (x15 : q_i τ1 15 3 = nI (c0 + 1)) (x16 : q_i τ1 16 = upd (q_i τ 16) c0 (nI kd)) (x17 : q_i τ1 17 = upd (q_i τ 17) c0 (nI n)) (x18 : q_i τ1 18 = fillN (q_i τ 18) (c0 * 20) (-1) n) (hn : ∀ i, i ≠ 8524 ∧ i ≠ 4200 + c0 ∧ i ≠ 4212 + c0 ∧ ¬ (4224 + 20 * c0 ≤ i ∧ i < 4244 + 20 * c0) → s2 i = s i) (hx : ∀ x, x = 19 ∨ (1 ≤ x ∧ x < 15) → q_i τ1 x = q_i τ x) (hl : ∀ (k d : Nat), wishOf (q_l τ1 (1 + 12) k) (q_l τ1 (1 + 13) k) d = wishOf (q_l τ (1 + 12) k) (q_l τ (1 + 13) k) d) : Corr τ1 1 s2 := by
  obtain ⟨b1, b2, b3, b4, b5, b6, b7, b8⟩ := hI.bnd
  have hN : ∀ i, i ≠ 8524 ∧ i ≠ 4200 + c0 ∧ i ≠ 4212 + c0 ∧ ¬ (4224 + 20 * c0 ≤ i ∧ i < 4244 + 20 * c0) → N s2 i = N s i := fun i q => by unfold N; rw [hn i q]
  have e24 : N s2 8524 = c0 + 1 := by unfold N; rw [h24, nI_clamp (by omega)]
  have er : N s2 (4212 + c0) = n := by unfold N; rw [hr, nI_clamp (by omega)]
  refine ⟨?_, fun k d hk hd => ?_⟩
  · rintro ⟨t, c, j⟩ h
    match t, h with
    | 0, h =>
      obtain ⟨hc7, rfl⟩ := h
      match c, hc7 with
      | 0, _ =>
        show q_i τ1 1 4 = s2 8525
        rw [hx 1 (by omega), hn 8525 (by omega)]
        exact hC.1 (0, 0, 0) ⟨by decide, rfl⟩
      | 1, _ =>
        show q_i τ1 1 5 = s2 8526
        rw [hx 1 (by omega), hn 8526 (by omega)]
        exact hC.1 (0, 1, 0) ⟨by decide, rfl⟩
      | 2, _ =>
        show q_i τ1 1 6 = s2 8527
        rw [hx 1 (by omega), hn 8527 (by omega)]
        exact hC.1 (0, 2, 0) ⟨by decide, rfl⟩
      | 3, _ =>
        show q_i τ1 2 5 = s2 8522
        rw [hx 2 (by omega), hn 8522 (by omega)]
        exact hC.1 (0, 3, 0) ⟨by decide, rfl⟩
      | 4, _ =>
        show q_i τ1 2 6 = s2 8528
        rw [hx 2 (by omega), hn 8528 (by omega)]
        exact hC.1 (0, 4, 0) ⟨by decide, rfl⟩
      | 5, _ =>
        show q_i τ1 9 5 = s2 8523
        rw [hx 9 (by omega), hn 8523 (by omega)]
        exact hC.1 (0, 5, 0) ⟨by decide, rfl⟩
      | 6, _ =>
        show q_i τ1 15 3 = s2 8524
        rw [x15]; exact h24.symm
    | 1, h =>
      have h : c < N s2 8522 ∧ j = 0 := h
      rw [hN 8522 (by omega)] at h
      obtain ⟨g1, rfl⟩ := h
      show q_i τ1 3 c = s2 (c)
      rw [hx 3 (by omega), hn (c) (by omega)]
      exact hC.1 (1, c, 0) ⟨g1, rfl⟩
    | 2, h =>
      have h : c < N s2 8522 ∧ j = 0 := h
      rw [hN 8522 (by omega)] at h
      obtain ⟨g1, rfl⟩ := h
      show q_i τ1 4 c = s2 (100 + c)
      rw [hx 4 (by omega), hn (100 + c) (by omega)]
      exact hC.1 (2, c, 0) ⟨g1, rfl⟩
    | 3, h =>
      have h : c < N s2 8522 ∧ j = 0 := h
      rw [hN 8522 (by omega)] at h
      obtain ⟨g1, rfl⟩ := h
      show q_i τ1 6 c = s2 (200 + c)
      rw [hx 6 (by omega), hn (200 + c) (by omega)]
      exact hC.1 (3, c, 0) ⟨g1, rfl⟩
    | 4, h =>
      have h : c < N s2 8522 ∧ j = 0 := h
      rw [hN 8522 (by omega)] at h
      obtain ⟨g1, rfl⟩ := h
      show q_i τ1 7 c = s2 (300 + c)
      rw [hx 7 (by omega), hn (300 + c) (by omega)]
      exact hC.1 (4, c, 0) ⟨g1, rfl⟩
    | 5, h =>
      have h : c < N s2 8522 ∧ j < N s2 (100 + c) := h
      rw [hN 8522 (by omega)] at h
      obtain ⟨g1, g2⟩ := h
      rw [hN (100 + c) (by omega)] at g2
      have g3 := b6 c g1
      show q_i τ1 5 (c * 18 + j) = s2 (400 + 18 * c + j)
      rw [hx 5 (by omega), hn (400 + 18 * c + j) (by omega)]
      exact hC.1 (5, c, j) ⟨g1, g2⟩
    | 6, h =>
      have h : c = 0 ∧ j < N s2 8528 := h
      rw [hN 8528 (by omega)] at h
      obtain ⟨rfl, g2⟩ := h
      show q_i τ1 8 j = s2 (8504 + j)
      rw [hx 8 (by omega), hn (8504 + j) (by omega)]
      exact hC.1 (6, 0, j) ⟨rfl, g2⟩
    | 7, h =>
      have h : c < N s2 8523 ∧ j = 0 := h
      rw [hN 8523 (by omega)] at h
      obtain ⟨g1, rfl⟩ := h
      show q_i τ1 10 c = s2 (2200 + c)
      rw [hx 10 (by omega), hn (2200 + c) (by omega)]
      exact hC.1 (7, c, 0) ⟨g1, rfl⟩
    | 8, h =>
      have h : c < N s2 8523 ∧ j = 0 := h
      rw [hN 8523 (by omega)] at h
      obtain ⟨g1, rfl⟩ := h
      show q_i τ1 12 c = s2 (4100 + c)
      rw [hx 12 (by omega), hn (4100 + c) (by omega)]
      exact hC.1 (8, c, 0) ⟨g1, rfl⟩
    | 9, h =>
      have h : c < N s2 8523 ∧ j < N s2 (2200 + c) := h
      rw [hN 8523 (by omega)] at h
      obtain ⟨g1, g2⟩ := h
      rw [hN (2200 + c) (by omega)] at g2
      have g3 := b7 c g1
      show q_i τ1 11 (c * 18 + j) = s2 (2300 + 18 * c + j)
      rw [hx 11 (by omega), hn (2300 + 18 * c + j) (by omega)]
      exact hC.1 (9, c, j) ⟨g1, g2⟩
    | 10, h =>
      have h : c < N s2 8524 ∧ j = 0 := h
      rw [e24] at h
      obtain ⟨g1, rfl⟩ := h
      show q_i τ1 16 c = s2 (4200 + c)
      rw [x16, upd_at]
      by_cases e : c = c0
      · rw [if_pos e, e]; exact hk.symm
      · rw [if_neg e, hn (4200 + c) (by omega)]
        exact hC.1 (10, c, 0) ⟨by show c < N s 8524; omega, rfl⟩
    | 11, h =>
      have h : c < N s2 8524 ∧ j = 0 := h
      rw [e24] at h
      obtain ⟨g1, rfl⟩ := h
      show q_i τ1 17 c = s2 (4212 + c)
      rw [x17, upd_at]
      by_cases e : c = c0
      · rw [if_pos e, e]; exact hr.symm
      · rw [if_neg e, hn (4212 + c) (by omega)]
        exact hC.1 (11, c, 0) ⟨by show c < N s 8524; omega, rfl⟩
    | 12, h =>
      have h : c < N s2 8524 ∧ j < N s2 (4212 + c) := h
      rw [e24] at h
      obtain ⟨g1, g2⟩ := h
      show q_i τ1 18 (c * 20 + j) = s2 (4224 + 20 * c + j)
      rw [x18]
      by_cases e : c = c0
      · rw [e] at g2 ⊢
        rw [er] at g2
        rw [fillN_in (by omega), hh j (by omega)]
      · rw [hN (4212 + c) (by omega)] at g2
        have g3 := b8 c (by omega)
        rw [fillN_out (by omega), hn (4224 + 20 * c + j) (by omega)]
        exact hC.1 (12, c, j) ⟨by show c < N s 8524; omega, g2⟩
    | 13, h =>
      have h : c < N s2 8525 ∧ j = 0 := h
      rw [hN 8525 (by omega)] at h
      obtain ⟨g1, rfl⟩ := h
      show q_i τ1 19 c = s2 (4464 + c)
      rw [hx 19 (by omega), hn (4464 + c) (by omega)]
      exact hC.1 (13, c, 0) ⟨g1, rfl⟩
    | t + 14, h => exact h.elim
  · rw [hN 8523 (by omega)] at hk
    rw [hl k d, hn (4504 + 40 * k + d) (by omega)]
    exact hC.2 k d hk hd
theorem c_addB {τ : kT} {c n : Nat} {a : Int32} (hm : q_i τ 15 3 = nI c) (hc : c < 12) (hn : n ≤ 20) {post : Int32 → kT → Prop} (h : ∀ τ2, WR τ τ2 → (∀ x, x = 19 ∨ (1 ≤ x ∧ x < 15) → q_i τ2 x = q_i τ x) → (∀ x, q_l τ2 x = q_l τ x) → q_i τ2 15 3 = nI (c + 1) → q_i τ2 16 = upd (q_i τ 16) c a → q_i τ2 17 = upd (q_i τ 17) c (nI n) → q_i τ2 18 = fillN (q_i τ 18) (c * 20) (-1) n → post (nI c) τ2) : T_X0_add a (nI n) τ post := by
  intro v1 h1 τ2 h2
  rw [hm] at h1 h2
  have h2 : τ2 = q_si τ 15 3 (nI (c + 1)) := by rw [h2]; exact congrArg (q_si τ 15 3) (nI_1 c)
  subst h1
  refine ⟨c, rfl, hc, fun τ4 h4 => ⟨c, rfl, hc, fun τ6 h6 => ?_⟩⟩
  have a15 : q_i τ6 15 3 = nI (c + 1) := by rw [h6, h4, h2]; rfl
  have a16 : q_i τ6 16 = upd (q_i τ 16) c a := by rw [h6, h4, h2]; rfl
  have a17 : q_i τ6 17 = upd (q_i τ 17) c (nI n) := by rw [h6, h4, h2]; rfl
  have a18 : q_i τ6 18 = q_i τ 18 := by rw [h6, h4, h2]; rfl
  have al : ∀ x, q_l τ6 x = q_l τ x := fun x => by rw [h6, h4, h2]; rfl
  have ax : ∀ x, x ≠ 15 → x ≠ 16 → x ≠ 17 → q_i τ6 x = q_i τ x := fun x n2 n3 n4 => by
    rw [h6, q_i_si, if_neg n4, h4, q_i_si, if_neg n3, h2, q_i_si, if_neg n2]
  have key : ∀ m j τ2, j + m = n → W1 18 τ6 τ2 (fillN (q_i τ 18) (c * 20) (-1) j) → L_X0_add_32 a (nI n) (nI c) (fun v16 τ17 => post (nI c) τ17) post (m + 1) (nI j) τ2 := by
    intro m
    induction m with
    | zero =>
      intro j τ2 hj hW
      have hj : j = n := by omega
      subst hj
      obtain ⟨w1, w2, w3⟩ := hW
      unfold L_X0_add_32
      refine br_t (nI_le (Nat.le_refl _) (by omega)) (h τ2 ⟨fun x hx => ?_, fun x hx => ?_⟩ (fun x hx => ?_) (fun x => ?_) ?_ ?_ ?_ w3)
      · rw [w1 x (by omega), ax x (by omega) (by omega) (by omega)]
      · rw [w2, al]
      · rw [w1 x (by omega), ax x (by omega) (by omega) (by omega)]
      · rw [w2, al]
      · rw [w1 15 (by decide)]; exact a15
      · rw [w1 16 (by decide)]; exact a16
      · rw [w1 17 (by decide)]; exact a17
    | succ m ih =>
      intro j τ2 hj hW
      unfold L_X0_add_32
      refine br_f (nI_ge (by omega) (by omega)) (s_exchange (n := c + 1) (m := n) (by rw [hW.1 15 (by decide)]; exact a15) (by omega) (by omega) (by rw [hW.1 17 (by decide), a17, upd_eq]) hn (by omega) (fun v14 h14 => ?_))
      rw [h14, show nI j + 1 = nI (j + 1) from nI_1 j]
      refine ih (j + 1) _ (by omega) ?_
      rw [← fillN_1]
      exact hW.set _ _
  refine ⟨n + 1, key n 0 τ6 (by omega) ?_⟩
  rw [fillN_0, ← a18]
  exact W1.refl 18 τ6
def newB (s : Nat → Int32) (c : Nat) (a b : Int32) : Nat → Int32 := fillN (upd (upd (upd s 8524 (nI (c + 1))) (4200 + c) a) (4212 + c) b) (4224 + 20 * c) (-1) 20
theorem newB_n {s : Nat → Int32} {c : Nat} {a b : Int32} (hc : c < 12) : (∀ i, i ≠ 8524 ∧ i ≠ 4200 + c ∧ i ≠ 4212 + c ∧ ¬ (4224 + 20 * c ≤ i ∧ i < 4244 + 20 * c) → newB s c a b i = s i) ∧ newB s c a b 8524 = nI (c + 1) ∧ newB s c a b (4200 + c) = a ∧ newB s c a b (4212 + c) = b ∧ (∀ j, j < 20 → newB s c a b (4224 + 20 * c + j) = -1) := by
  unfold newB
  refine ⟨fun i hi => ?_, ?_, ?_, ?_, fun j hj => ?_⟩
  · rw [fillN_out (by omega), upd_ne (by omega), upd_ne (by omega), upd_ne (by omega)]
  · rw [fillN_out (by omega), upd_ne (by omega), upd_ne (by omega), upd_eq]
  · rw [fillN_out (by omega), upd_ne (by omega), upd_eq]
  · rw [fillN_out (by omega), upd_eq]
  · rw [fillN_in (by omega)]
/-- the reference's loop that fills a row with one number -/
theorem r_fillB {τ2 : kT} {c : Nat} {f1 f2 : Int32} {g : Nat → Int32} (hc : c < 12) {K : Int32 → kT → Prop} {post : Int32 → kT → Prop} (h : ∀ τ3, W1 67 τ2 τ3 (fillN g (4224 + 20 * c) (-1) 20) → K (nI 20) τ3) : ∀ m j τ3, j + m = 20 → W1 67 τ2 τ3 (fillN g (4224 + 20 * c) (-1) j) → L_X11_cabinet_96 f1 f2 (nI c) K post (m + 1) (nI j) τ3 := by
  intro m
  induction m with
  | zero =>
    intro j τ3 hj hW
    have hj : j = 20 := by omega
    subst hj
    unfold L_X11_cabinet_96
    exact br_t (by decide) (h τ3 hW)
  | succ m ih =>
    intro j τ3 hj hW
    unfold L_X11_cabinet_96
    refine br_f (nI_ge (b := 20) (by omega) (by decide)) ⟨4224 + 20 * c + j, ev_3 4224 20 c j, by omega, fun τ14 h14 v15 h15 => ?_⟩
    rw [h14, h15, show nI j + 1 = nI (j + 1) from nI_1 j]
    refine ih (j + 1) _ (by omega) ?_
    rw [← fillN_1]
    exact hW.set _ _
theorem k_cabinet_op : K_cabinet J := by
  intro a b τ hJ
  obtain ⟨nb, hnb, c1, c2, c3⟩ := hJ.nb
  unfold T_X10_cabinet T_X10_makeCabinet
  have bad : (¬ inn a 5 ∨ ¬ b ≤ 20) → T_X10_settle (-2) τ (fun r3 τ4 => T_X11_cabinet a b τ4 (fun r2 τ2 => r3 = r2 ∧ J τ2)) := by
    intro h
    refine s_settle_bad (Or.inl rfl) ?_
    unfold T_X11_cabinet
    by_cases ha : inn a 5
    · obtain ⟨k, hk, rfl⟩ := ha
      exact s_inL_t (n := 5) (by decide) (by omega) hk (br_f (by decide) (br_f (h.resolve_left (fun q => q (inn_nI hk))) ⟨rfl, hJ⟩))
    · exact s_inL_f (n := 5) (by decide) (by omega) ha (br_t rfl ⟨rfl, hJ⟩)
  have z0 : (0 : Int32).toInt = 0 := rfl
  have z4 : (4 : Int32).toInt = 4 := rfl
  by_cases ha : inn a 5
  case neg =>
    refine ⟨fun _ => bad (Or.inl ha), fun q => ⟨fun _ => bad (Or.inl ha), fun q2 => absurd ?_ ha⟩⟩
    rw [inn_iff (by omega)]
    rw [i_lt] at q q2
    omega
  obtain ⟨kd, hkd, rfl⟩ := ha
  refine br_f (nI_pos (by omega)) (br_f (nI_nlt (a := 4) (by omega) (by omega)) ?_)
  by_cases hb : b ≤ 20
  case neg => exact br_f hb (bad (Or.inr hb))
  refine br_t hb ?_
  have ri : ∀ {τ' : kT} {post : Int32 → kT → Prop}, q_i τ' 67 8524 = nI nb → (nb = 12 → post (-4) τ') → (nb ≠ 12 → ((0 ≤ b → (T_X11_change  τ' (fun τ8 => (∀ v9 : Int32, v9 = (q_i τ8 67 8524) → (∀ τ10 : kT, τ10 = q_si τ8 67 8524 (v9 + (1 : Int32)) → (∃ j11 : Nat, ((4200 : Int32) + v9) = nI j11 ∧ j11 < 8530 ∧ (∀ τ12 : kT, τ12 = q_si τ10 67 j11 (nI kd) → (∃ j13 : Nat, ((4212 : Int32) + v9) = nI j13 ∧ j13 < 8530 ∧ (∀ τ14 : kT, τ14 = q_si τ12 67 j13 b → (∃ m19 : Nat, L_X11_cabinet_96  (nI kd) b v9 (fun v20 τ21 => (T_X11_well v9 τ21 (fun r22 τ23 => post r22 τ23))) post m19 (0 : Int32) τ14)))))))))) ∧ (¬ 0 ≤ b → (T_X11_met (5 : Int32) τ' (fun r24 τ25 => post r24 τ25))))) → T_X11_cabinet (nI kd) b τ' post := by
    intro τ' post e h1 h2
    unfold T_X11_cabinet
    refine s_inL_t (n := 5) (by decide) (by omega) hkd (br_f (by decide) (br_t hb ?_))
    rw [e]
    by_cases q : nb = 12
    · exact bn_f (by rw [q]; rfl) (h1 q)
    · exact bn_t (fun y => q ((nI_eq (b := 12) (by omega) (by decide)).mp y)) (h2 q)
  by_cases hc : nb < 12
  case neg =>
    refine br_f (by rw [c1]; exact nI_nlt (b := 12) (by omega) (by omega)) (s_settle_bad (Or.inr (Or.inr rfl)) ?_)
    exact ri c2 (fun _ => ⟨rfl, hJ⟩) (fun q => absurd (by omega) q)
  refine br_t (by rw [c1]; exact nI_lt hc (by decide)) ?_
  by_cases hb0 : 0 ≤ b
  case neg =>
    refine br_f hb0 (s_settle_met (f := 5) ⟨by decide, by decide⟩ ?_)
    exact ri c2 (fun q => absurd q (by omega)) (fun _ => br_f hb0 (s_met ⟨by decide, e_met hJ 5⟩))
  obtain ⟨n, hn, rfl⟩ : inn b 21 := by
    rw [inn_iff (by decide)]
    rw [i_le] at hb hb0
    have : (20 : Int32).toInt = 20 := rfl
    omega
  refine br_t hb0 (s_remember hJ (fun τr hr => ?_))
  refine c_addB (c := nb) (n := n) (by rw [hr.g (by decide) (by decide)]; exact c1) hc (by omega) (fun τ1 w1 wx wl x15 x16 x17 x18 => s_settle_n (by omega) ?_)
  have ee : ∀ x, 39 ≤ x → q_i (q_si τ1 0 4 0) x = q_i τ x := fun x hx => by
    rw [q_i_si, if_neg (by omega)]
    exact WR.e hr w1 hx
  refine ri (by rw [ee 67 (by decide)]; exact c2) (fun q => absurd q (by omega)) (fun _ => br_t hb0 ?_)
  refine s_change (by rw [ee 67 (by decide), ee 68 (by decide)]; exact hJ.hz) (fun v9 h9 => ?_)
  obtain ⟨τ2, e2⟩ : ∃ τ2, τ2 = q_si (q_wi (q_si τ1 0 4 0) 68 (q_i (q_si τ1 0 4 0) 67)) 66 2 1 := ⟨_, rfl⟩
  rw [← e2] at h9 ⊢
  have z67 : q_i τ2 67 = q_i τ 67 := by rw [e2, ← ee 67 (by decide)]; rfl
  have h9 : v9 = nI nb := by rw [h9, z67]; exact c2
  subst h9
  refine fun τ10 h10 => ⟨4200 + nb, nI_add 4200 nb, by omega, fun τ12 h12 => ⟨4212 + nb, nI_add 4212 nb, by omega, fun τ14 h14 => ⟨21, ?_⟩⟩⟩
  refine r_fillB (τ2 := τ2) (g := upd (upd (upd (q_i τ 67) 8524 (nI (nb + 1))) (4200 + nb) (nI kd)) (4212 + nb) (nI n)) hc (fun τ3 hW => s_well ⟨rfl, ?_⟩) 20 0 τ14 (by omega) ?_
  · rw [fillN_0, h14, h12, h10, ← z67, show nI nb + 1 = nI (nb + 1) from nI_1 nb]
    exact (((W1.refl 67 τ2).set _ _).set _ _).set _ _
  · have hR := (refW_of e2 hW).well
    rw [ee 66 (by decide)] at hR
    obtain ⟨n1, n2, n3, n4, n5⟩ := newB_n (s := q_i τ 67) (c := nb) (a := nI kd) (b := nI n) hc
    refine J_mulW hJ hr w1 hR (inv_newb hJ.1 nb kd n c3 hc n2 n3 (by omega) n4 (by omega) n5 n1) ?_ (fun k hk => ?_)
    · refine corr_newb hJ.1 hJ.2.1 nb kd n c3 hc n2 n3 (by omega) n4 (by omega) n5 x15 (by rw [x16, hr.g (by decide) (by decide)]) (by rw [x17, hr.g (by decide) (by decide)]) (by rw [x18, hr.g (by decide) (by decide)]) n1 (fun x hx => ?_) (fun k d => ?_)
      · rw [wx x hx, hr.g (by omega) (by omega)]
      · rw [wl, wl, hr.gl (by decide), hr.gl (by decide)]
    · rw [show fillN _ _ _ _ k = newB (q_i τ 67) nb (nI kd) (nI n) k from rfl, n1 k (by omega)]; exact (hJ.hz k hk).1
/-! door -/
theorem inv_newd {s s2 : Nat → Int32} (h : InvS s) (c0 : Nat) (hc0 : N s 8525 = c0) (hc9 : c0 < 40) (h25 : s2 8525 = nI (c0 + 1)) (hk : s2 (4464 + c0) = -1) (hw : ∀ k d, k < 100 → d < 40 → s2 (4504 + 40 * k + d) = if d = c0 then 0 else s (4504 + 40 * k + d)) (hn : ∀ i, i ≠ 8525 ∧ i ≠ 4464 + c0 ∧ ¬ (4504 ≤ i ∧ i < 8504) → s2 i = s i) : InvS s2 := by
  obtain ⟨h1, h2, h3, h4, h5, h6, h7, h8, h9, h10, h11, h12, h13, h14, h15, h16⟩ := id h
  obtain ⟨b1, b2, b3, b4, b5, b6, b7, b8⟩ := h.bnd
  have hN : ∀ i, i ≠ 8525 ∧ i ≠ 4464 + c0 ∧ ¬ (4504 ≤ i ∧ i < 8504) → N s2 i = N s i := fun i q => by unfold N; rw [hn i q]
  have e25 : N s2 8525 = c0 + 1 := by unfold N; rw [h25, nI_clamp (by omega)]
  refine ⟨?_, ?_, ?_, ?_, ?_, ?_, ?_, ?_, ?_, ?_, ?_, ?_, ?_, ?_, ?_, ?_⟩
  · rw [hN 8522 (by omega), hn 8522 (by omega)]; exact h1
  · rw [hN 8523 (by omega), hn 8523 (by omega)]; exact h2
  · rw [hN 8524 (by omega), hn 8524 (by omega)]; exact h3
  · rw [e25]; exact ⟨h25, by omega⟩
  · rw [hN 8526 (by omega), hn 8526 (by omega)]; exact h5
  · rw [hN 8527 (by omega), hn 8527 (by omega)]; exact h6
  · rw [hn 8528 (by omega)]; exact h7
  · intro c hc
    rw [hN 8522 (by omega)] at hc
    obtain ⟨p1, p2, p3, p4, p5, p6⟩ := h8 c hc
    refine ⟨by rw [hN c (by omega), hn c (by omega)]; exact p1, by rw [hn (100 + c) (by omega)]; exact p2, by rw [hn (100 + c) (by omega), hn c (by omega)]; exact p3, by rw [hn (100 + c) (by omega), hn c (by omega)]; exact p4, ?_, ?_⟩
    · rw [hn (200 + c) (by omega)]; exact p5.imp id (fun ⟨x, ⟨x1, x2⟩, x3⟩ => ⟨x, ⟨by rw [hN 8522 (by omega)]; exact x1, by rw [hn x (by omega)]; exact x2⟩, x3⟩)
    · rw [hn (300 + c) (by omega)]; exact p6.imp id (fun ⟨x, ⟨x1, x2⟩, x3⟩ => ⟨x, ⟨by rw [hN 8522 (by omega)]; exact x1, by rw [hn x (by omega)]; exact x2⟩, x3⟩)
  · intro c j hc hj
    rw [hN 8522 (by omega)] at hc
    rw [hN (400 + 18 * c + j) (by omega), hn (400 + 18 * c + j) (by omega), hN c (by omega), hN (100 + c) (by omega)]
    exact h9 c j hc hj
  · intro q j hj
    rw [hn 8528 (by omega)] at q
    rw [hN (8504 + j) (by omega), hn (8504 + j) (by omega), hN 8528 (by omega)]
    exact h10 q j hj
  · intro k hk
    rw [hN 8523 (by omega)] at hk
    rw [hN (2200 + k) (by omega), hn (2200 + k) (by omega), hn (4100 + k) (by omega), hN 8526 (by omega)]
    exact h11 k hk
  · intro k i2 hk hi2
    rw [hN 8523 (by omega)] at hk
    rw [hN (2200 + k) (by omega)] at hi2
    have hl := (h11 k hk).1.2
    rw [hN (2300 + 18 * k + i2) (by omega), hn (2300 + 18 * k + i2) (by omega)]
    exact h12 k i2 hk hi2
  · intro k d hk2 hd
    rw [hN 8523 (by omega)] at hk2
    rw [e25, hw k d (by omega) hd]
    by_cases e : d = c0
    · rw [if_pos e]; exact Or.inl rfl
    · rw [if_neg e]
      exact (h13 k d hk2 hd).imp id (fun ⟨x, y⟩ => ⟨by omega, y⟩)
  · intro c hc
    rw [hN 8524 (by omega)] at hc
    rw [hN (4200 + c) (by omega), hn (4200 + c) (by omega), hN (4212 + c) (by omega), hn (4212 + c) (by omega)]
    exact h14 c hc
  · intro c p hc hp
    rw [hN 8524 (by omega)] at hc
    rw [hN (4212 + c) (by omega)] at hp
    have hl := (h14 c hc).2.2
    rw [hn (4224 + 20 * c + p) (by omega), hN 8522 (by omega)]
    exact h15 c p hc hp
  · intro d hd
    rw [e25] at hd
    rw [hN 8522 (by omega)]
    by_cases e : d = c0
    · rw [e, hk]; exact Or.inl rfl
    · rw [hn (4464 + d) (by omega)]
      exact h16 d (by omega)
theorem corr_newd {τ τ1 : kT} {s s2 : Nat → Int32} (hI : InvS s) (hC : Corr τ 1 s) (c0 : Nat) (hc0 : N s 8525 = c0) (hc9 : c0 < 40) (h25 : s2 8525 = nI (c0 + 1)) (hk : s2 (4464 + c0) = -1) (hw : ∀ k d, k < 100 → d < 40 → s2 (4504 + 40 * k + d) = if d = c0 then 0 else s (4504 + 40 * k + d)) (x14 : q_i τ1 1 4 = nI (c0 + 1)) (x15 : q_i τ1 1 5 = q_i τ 1 5) (x16 : q_i τ1 1 6 = q_i τ 1 6) (x19 : q_i τ1 19 = upd (q_i τ 19) c0 (-1)) (hn : ∀ i, i ≠ 8525 ∧ i ≠ 4464 + c0 ∧ ¬ (4504 ≤ i ∧ i < 8504) → s2 i = s i) (hx : ∀ x, 2 ≤ x ∧ x < 19 → q_i τ1 x = q_i τ x) (hl : ∀ (k d : Nat), wishOf (q_l τ1 (1 + 12) k) (q_l τ1 (1 + 13) k) d = wishOf (q_l τ (1 + 12) k) (q_l τ (1 + 13) k) d) : Corr τ1 1 s2 := by
  obtain ⟨b1, b2, b3, b4, b5, b6, b7, b8⟩ := hI.bnd
  have hN : ∀ i, i ≠ 8525 ∧ i ≠ 4464 + c0 ∧ ¬ (4504 ≤ i ∧ i < 8504) → N s2 i = N s i := fun i q => by unfold N; rw [hn i q]
  have e25 : N s2 8525 = c0 + 1 := by unfold N; rw [h25, nI_clamp (by omega)]
  refine ⟨?_, fun k d hk2 hd => ?_⟩
  · rintro ⟨t, c, j⟩ h
    match t, h with
    | 0, h =>
      obtain ⟨hc7, rfl⟩ := h
      match c, hc7 with
      | 0, _ =>
        show q_i τ1 1 4 = s2 8525
        rw [x14]; exact h25.symm
      | 1, _ =>
        show q_i τ1 1 5 = s2 8526
        rw [x15, hn 8526 (by omega)]
        exact hC.1 (0, 1, 0) ⟨by decide, rfl⟩
      | 2, _ =>
        show q_i τ1 1 6 = s2 8527
        rw [x16, hn 8527 (by omega)]
        exact hC.1 (0, 2, 0) ⟨by decide, rfl⟩
      | 3, _ =>
        show q_i τ1 2 5 = s2 8522
        rw [hx 2 (by omega), hn 8522 (by omega)]
        exact hC.1 (0, 3, 0) ⟨by decide, rfl⟩
      | 4, _ =>
        show q_i τ1 2 6 = s2 8528
        rw [hx 2 (by omega), hn 8528 (by omega)]
        exact hC.1 (0, 4, 0) ⟨by decide, rfl⟩
      | 5, _ =>
        show q_i τ1 9 5 = s2 8523
        rw [hx 9 (by omega), hn 8523 (by omega)]
        exact hC.1 (0, 5, 0) ⟨by decide, rfl⟩
      | 6, _ =>
        show q_i τ1 15 3 = s2 8524
        rw [hx 15 (by omega), hn 8524 (by omega)]
        exact hC.1 (0, 6, 0) ⟨by decide, rfl⟩
    | 1, h =>
      have h : c < N s2 8522 ∧ j = 0 := h
      rw [hN 8522 (by omega)] at h
      obtain ⟨g1, rfl⟩ := h
      show q_i τ1 3 c = s2 (c)
      rw [hx 3 (by omega), hn (c) (by omega)]
      exact hC.1 (1, c, 0) ⟨g1, rfl⟩
    | 2, h =>
      have h : c < N s2 8522 ∧ j = 0 := h
      rw [hN 8522 (by omega)] at h
      obtain ⟨g1, rfl⟩ := h
      show q_i τ1 4 c = s2 (100 + c)
      rw [hx 4 (by omega), hn (100 + c) (by omega)]
      exact hC.1 (2, c, 0) ⟨g1, rfl⟩
    | 3, h =>
      have h : c < N s2 8522 ∧ j = 0 := h
      rw [hN 8522 (by omega)] at h
      obtain ⟨g1, rfl⟩ := h
      show q_i τ1 6 c = s2 (200 + c)
      rw [hx 6 (by omega), hn (200 + c) (by omega)]
      exact hC.1 (3, c, 0) ⟨g1, rfl⟩
    | 4, h =>
      have h : c < N s2 8522 ∧ j = 0 := h
      rw [hN 8522 (by omega)] at h
      obtain ⟨g1, rfl⟩ := h
      show q_i τ1 7 c = s2 (300 + c)
      rw [hx 7 (by omega), hn (300 + c) (by omega)]
      exact hC.1 (4, c, 0) ⟨g1, rfl⟩
    | 5, h =>
      have h : c < N s2 8522 ∧ j < N s2 (100 + c) := h
      rw [hN 8522 (by omega)] at h
      obtain ⟨g1, g2⟩ := h
      rw [hN (100 + c) (by omega)] at g2
      have g3 := b6 c g1
      show q_i τ1 5 (c * 18 + j) = s2 (400 + 18 * c + j)
      rw [hx 5 (by omega), hn (400 + 18 * c + j) (by omega)]
      exact hC.1 (5, c, j) ⟨g1, g2⟩
    | 6, h =>
      have h : c = 0 ∧ j < N s2 8528 := h
      rw [hN 8528 (by omega)] at h
      obtain ⟨rfl, g2⟩ := h
      show q_i τ1 8 j = s2 (8504 + j)
      rw [hx 8 (by omega), hn (8504 + j) (by omega)]
      exact hC.1 (6, 0, j) ⟨rfl, g2⟩
    | 7, h =>
      have h : c < N s2 8523 ∧ j = 0 := h
      rw [hN 8523 (by omega)] at h
      obtain ⟨g1, rfl⟩ := h
      show q_i τ1 10 c = s2 (2200 + c)
      rw [hx 10 (by omega), hn (2200 + c) (by omega)]
      exact hC.1 (7, c, 0) ⟨g1, rfl⟩
    | 8, h =>
      have h : c < N s2 8523 ∧ j = 0 := h
      rw [hN 8523 (by omega)] at h
      obtain ⟨g1, rfl⟩ := h
      show q_i τ1 12 c = s2 (4100 + c)
      rw [hx 12 (by omega), hn (4100 + c) (by omega)]
      exact hC.1 (8, c, 0) ⟨g1, rfl⟩
    | 9, h =>
      have h : c < N s2 8523 ∧ j < N s2 (2200 + c) := h
      rw [hN 8523 (by omega)] at h
      obtain ⟨g1, g2⟩ := h
      rw [hN (2200 + c) (by omega)] at g2
      have g3 := b7 c g1
      show q_i τ1 11 (c * 18 + j) = s2 (2300 + 18 * c + j)
      rw [hx 11 (by omega), hn (2300 + 18 * c + j) (by omega)]
      exact hC.1 (9, c, j) ⟨g1, g2⟩
    | 10, h =>
      have h : c < N s2 8524 ∧ j = 0 := h
      rw [hN 8524 (by omega)] at h
      obtain ⟨g1, rfl⟩ := h
      show q_i τ1 16 c = s2 (4200 + c)
      rw [hx 16 (by omega), hn (4200 + c) (by omega)]
      exact hC.1 (10, c, 0) ⟨g1, rfl⟩
    | 11, h =>
      have h : c < N s2 8524 ∧ j = 0 := h
      rw [hN 8524 (by omega)] at h
      obtain ⟨g1, rfl⟩ := h
      show q_i τ1 17 c = s2 (4212 + c)
      rw [hx 17 (by omega), hn (4212 + c) (by omega)]
      exact hC.1 (11, c, 0) ⟨g1, rfl⟩
    | 12, h =>
      have h : c < N s2 8524 ∧ j < N s2 (4212 + c) := h
      rw [hN 8524 (by omega)] at h
      obtain ⟨g1, g2⟩ := h
      rw [hN (4212 + c) (by omega)] at g2
      have g3 := b8 c g1
      show q_i τ1 18 (c * 20 + j) = s2 (4224 + 20 * c + j)
      rw [hx 18 (by omega), hn (4224 + 20 * c + j) (by omega)]
      exact hC.1 (12, c, j) ⟨g1, g2⟩
    | 13, h =>
      have h : c < N s2 8525 ∧ j = 0 := h
      rw [e25] at h
      obtain ⟨g1, rfl⟩ := h
      show q_i τ1 19 c = s2 (4464 + c)
      rw [x19, upd_at]
      by_cases e : c = c0
      · rw [if_pos e, e]; exact hk.symm
      · rw [if_neg e, hn (4464 + c) (by omega)]
        exact hC.1 (13, c, 0) ⟨by show c < N s 8525; omega, rfl⟩
    | t + 14, h => exact h.elim
  · rw [hN 8523 (by omega)] at hk2
    rw [hl k d, hC.2 k d hk2 hd, hw k d (by omega) hd]
    by_cases e : d = c0
    · rw [if_pos e]
      exact (hI.2.2.2.2.2.2.2.2.2.2.2.2.1 k d hk2 hd).elim id (fun y => by omega)
    · rw [if_neg e]
def wz (s : Nat → Int32) (c : Nat) (m : Nat) : Nat → Int32 := fun i => if 4504 ≤ i ∧ (i - 4504) / 40 < m ∧ (i - 4504) % 40 = c then 0 else s i
theorem wz_1 (s : Nat → Int32) (c m : Nat) (hc : c < 40) : upd (wz s c m) (4504 + 40 * m + c) 0 = wz s c (m + 1) := by
  funext i
  rw [upd_at]
  unfold wz
  by_cases e : i = 4504 + 40 * m + c
  · rw [if_pos e, if_pos (by omega)]
  · rw [if_neg e]
    by_cases q : 4504 ≤ i ∧ (i - 4504) / 40 < m ∧ (i - 4504) % 40 = c
    · rw [if_pos q, if_pos (by omega)]
    · rw [if_neg q, if_neg (by omega)]
theorem k_door_op : K_door J := by
  intro τ hJ
  obtain ⟨nd, hnd, c1, c2, c3⟩ := hJ.nd
  unfold T_X10_door
  by_cases hc : nd < 40
  case neg =>
    refine br_f (by rw [c1]; exact nI_nlt (b := 40) (by omega) (by omega)) ?_
    intro v1 h1
    exact bn_f (by rw [h1, c2, show nd = 40 by omega]; rfl) ⟨rfl, hJ⟩
  refine br_t (by rw [c1]; exact nI_lt hc (by decide)) (s_remember hJ (fun τr hr => ⟨nd, by rw [hr.g (by decide) (by decide)]; exact c1, by omega, fun τ5 h5 τ6 h6 => ?_⟩))
  have w14 : q_i τ5 1 4 = nI nd := by rw [h5]; show q_i τr 1 4 = _; rw [hr.g (by decide) (by decide)]; exact c1
  have x14 : q_i τ6 1 4 = nI (nd + 1) := by
    rw [h6, w14, show nI nd + 1 = nI (nd + 1) from nI_1 nd]; rfl
  have w1 : WR τr τ6 := ⟨fun x hx => by rw [h6, q_i_si, if_neg (by omega), h5, q_i_si, if_neg (by omega)], fun x hx => by rw [h6, h5]; rfl⟩
  have wx : ∀ x, 2 ≤ x ∧ x < 19 → q_i τ6 x = q_i τr x := fun x hx => by rw [h6, q_i_si, if_neg (by omega), h5, q_i_si, if_neg (by omega)]
  have wl : ∀ x, q_l τ6 x = q_l τr x := fun x => by rw [h6, h5]; rfl
  have x15 : q_i τ6 1 5 = q_i τr 1 5 := by rw [h6, h5]; rfl
  have x16 : q_i τ6 1 6 = q_i τr 1 6 := by rw [h6, h5]; rfl
  have x19 : q_i τ6 19 = upd (q_i τr 19) nd (-1) := by rw [h6, h5]; rfl
  rw [x14]
  have er : nI (nd + 1) - 1 = nI nd := by
    rw [i_eq, i_m1 (by omega), nI_toInt (by omega)]; omega
  rw [er]
  have ee : ∀ x, 39 ≤ x → q_i τ6 x = q_i τ x := fun x hx => WR.e hr w1 hx
  intro v1 h1
  have h1 : v1 = nI nd := by rw [h1, ee 67 (by decide)]; exact c2
  subst h1
  refine bn_t (fun y => absurd ((nI_eq (b := 40) (by omega) (by decide)).mp y) (by omega)) (s_change (by rw [ee 67 (by decide), ee 68 (by decide)]; exact hJ.hz) ?_)
  obtain ⟨τ2, e2⟩ : ∃ τ2, τ2 = q_si (q_wi τ6 68 (q_i τ6 67)) 66 2 1 := ⟨_, rfl⟩
  rw [← e2]
  have z67 : q_i τ2 67 = q_i τ 67 := by rw [e2, ← ee 67 (by decide)]; rfl
  intro τ8 h8
  refine ⟨4464 + nd, nI_add 4464 nd, by omega, fun τ7 h7 => ⟨101, ?_⟩⟩
  have key : ∀ m j τ3, j + m = 100 → W1 67 τ2 τ3 (wz (upd (upd (q_i τ 67) 8525 (nI (nd + 1))) (4464 + nd) (-1)) nd j) → L_X11_door_46 (nI nd) (fun v13 τ14 => nI nd = nI nd ∧ J τ14) (fun r2 τ2 => nI nd = r2 ∧ J τ2) (m + 1) (nI j) τ3 := by
    intro m
    induction m with
    | zero =>
      intro j τ3 hj hW
      have hj : j = 100 := by omega
      subst hj
      unfold L_X11_door_46
      refine br_t (by decide) ⟨rfl, ?_⟩
      have hR := refW_of e2 hW
      rw [ee 66 (by decide)] at hR
      have n1 : ∀ i, i ≠ 8525 ∧ i ≠ 4464 + nd ∧ ¬ (4504 ≤ i ∧ i < 8504) → wz (upd (upd (q_i τ 67) 8525 (nI (nd + 1))) (4464 + nd) (-1)) nd 100 i = q_i τ 67 i := fun i hi => by
        unfold wz
        rw [if_neg (by omega), upd_ne (by omega), upd_ne (by omega)]
      have n2 : wz (upd (upd (q_i τ 67) 8525 (nI (nd + 1))) (4464 + nd) (-1)) nd 100 8525 = nI (nd + 1) := by
        unfold wz
        rw [if_neg (by omega), upd_ne (by omega), upd_eq]
      have n3 : wz (upd (upd (q_i τ 67) 8525 (nI (nd + 1))) (4464 + nd) (-1)) nd 100 (4464 + nd) = -1 := by
        unfold wz
        rw [if_neg (by omega), upd_eq]
      have n4 : ∀ k d, k < 100 → d < 40 → wz (upd (upd (q_i τ 67) 8525 (nI (nd + 1))) (4464 + nd) (-1)) nd 100 (4504 + 40 * k + d) = if d = nd then 0 else q_i τ 67 (4504 + 40 * k + d) := fun k d hk hd => by
        unfold wz
        by_cases e : d = nd
        · rw [if_pos (by omega), if_pos e]
        · rw [if_neg (by omega), if_neg e, upd_ne (by omega), upd_ne (by omega)]
      refine J_mulN hJ hr w1 hR (inv_newd hJ.1 nd c3 hc n2 n3 n4 n1) ?_ (fun k hk => by rw [n1 k (by omega)]; exact (hJ.hz k hk).1)
      refine corr_newd hJ.1 hJ.2.1 nd c3 hc n2 n3 n4 x14 (by rw [x15, hr.g (by decide) (by decide)]) (by rw [x16, hr.g (by decide) (by decide)]) (by rw [x19, hr.g (by decide) (by decide)]) n1 (fun x hx => ?_) (fun k d => ?_)
      · rw [wx x hx, hr.g (by omega) (by omega)]
      · rw [wl, wl, hr.gl (by decide), hr.gl (by decide)]
    | succ m ih =>
      intro j τ3 hj hW
      unfold L_X11_door_46
      refine br_f (nI_ge (b := 100) (by omega) (by decide)) ⟨4504 + 40 * j + nd, ev_3 4504 40 j nd, by omega, fun τ14 h14 v15 h15 => ?_⟩
      rw [h14, h15, show nI j + 1 = nI (j + 1) from nI_1 j]
      refine ih (j + 1) _ (by omega) ?_
      rw [← wz_1 _ _ _ hc]
      exact hW.set _ _
  refine key 100 0 τ7 (by omega) ?_
  have z0 : ∀ s : Nat → Int32, wz s nd 0 = s := fun s => by
    funext i
    unfold wz
    rw [if_neg (by omega)]
  rw [z0, h7, h8, ← z67, show nI nd + 1 = nI (nd + 1) from nI_1 nd]
  exact ((W1.refl 67 τ2).set _ _).set _ _
