/-! ===== many writes ===== -/
def fillN (g : Nat → Int32) (a : Nat) (v : Int32) (m : Nat) : Nat → Int32 := fun i => if a ≤ i ∧ i < a + m then v else g i
theorem fillN_0 (g : Nat → Int32) (a : Nat) (v : Int32) : fillN g a v 0 = g := by
  funext i
  unfold fillN
  rw [if_neg (by omega)]
theorem fillN_1 (g : Nat → Int32) (a : Nat) (v : Int32) (m : Nat) : upd (fillN g a v m) (a + m) v = fillN g a v (m + 1) := by
  funext i
  rw [upd_at]
  unfold fillN
  by_cases e : i = a + m
  · rw [if_pos e, if_pos (by omega)]
  · rw [if_neg e]
    by_cases q : a ≤ i ∧ i < a + m
    · rw [if_pos q, if_pos (by omega)]
    · rw [if_neg q, if_neg (by omega)]
theorem fillN_in {g : Nat → Int32} {a m i : Nat} {v : Int32} (h : a ≤ i ∧ i < a + m) : fillN g a v m i = v := if_pos h
theorem fillN_out {g : Nat → Int32} {a m i : Nat} {v : Int32} (h : ¬ (a ≤ i ∧ i < a + m)) : fillN g a v m i = g i := if_neg h
theorem upd_eq {f : Nat → Int32} {i : Nat} {v : Int32} : upd f i v i = v := by rw [upd_at, if_pos rfl]
theorem upd_ne {f : Nat → Int32} {i j : Nat} {v : Int32} (h : j ≠ i) : upd f i v j = f j := by rw [upd_at, if_neg h]
/-- one cell alone has changed -/
def W1 (x : Nat) (τ τ2 : kT) (g : Nat → Int32) : Prop := (∀ y, y ≠ x → q_i τ2 y = q_i τ y) ∧ (∀ y, q_l τ2 y = q_l τ y) ∧ q_i τ2 x = g
theorem W1.refl (x : Nat) (τ : kT) : W1 x τ τ (q_i τ x) := ⟨fun _ _ => rfl, fun _ => rfl, rfl⟩
theorem W1.set {x : Nat} {τ τ2 : kT} {g : Nat → Int32} (h : W1 x τ τ2 g) (i : Nat) (v : Int32) : W1 x τ (q_si τ2 x i v) (upd g i v) := ⟨fun y hy => by rw [q_i_si, if_neg hy]; exact h.1 y hy, h.2.1, by rw [q_i_si, if_pos rfl, h.2.2]⟩
theorem W1.trans {x : Nat} {τ τ2 τ3 : kT} {g g2 : Nat → Int32} (h : W1 x τ τ2 g) (h2 : W1 x τ2 τ3 g2) : W1 x τ τ3 g2 := ⟨fun y hy => (h2.1 y hy).trans (h.1 y hy), fun y => (h2.2.1 y).trans (h.2.1 y), h2.2.2⟩
/-- behind remember() the class has written in its own block alone -/
def WR (τ τ2 : kT) : Prop := (∀ x, ¬ (1 ≤ x ∧ x < 20) → q_i τ2 x = q_i τ x) ∧ (∀ x, ¬ (1 ≤ x ∧ x < 20) → q_l τ2 x = q_l τ x)
theorem J_mul {τ τr τ1 τs τ2 : kT} {f g s' : Nat → Int32} (hJ : J τ) (hr1 : ∀ x, x ≠ 0 → ¬ (20 ≤ x ∧ x < 39) → q_i τr x = q_i τ x) (hrC : Corr τr 20 (q_i τ 67)) (hw : WR τr τ1) (hs : (∀ x, x ≠ 0 → q_i τs x = q_i τ1 x) ∧ (∀ x, q_l τs x = q_l τ1 x)) (hf0 : q_i τs 0 = f) (hR : refW τs τ2 s' g)
    (hf : f 2 = 1 ∧ g 2 = 1 ∧ g 3 = f 3 ∧ g 4 = f 4 ∧ g 5 = f 5 ∧ g 6 = q_i τ 66 6 ∧ g 9 = q_i τ 66 9 ∧ g 10 = q_i τ 66 10) (hI : InvS s') (hC : Corr τ1 1 s') (hz : ∀ k, 8530 ≤ k → s' k = 0) : J τ2 := by
  refine hJ.wr (τ1 := τs) ⟨fun x h0 h39 => ?_, hf0, ?_⟩ hR hf hI (hC.congr (fun x hx => hs.1 _ (by omega)) ⟨hs.2 _, hs.2 _⟩) hz
  · rw [hs.1 x h0, hw.1 x (by omega)]; exact hr1 x h0 (by omega)
  · exact hrC.congr (fun x hx => by rw [hs.1 _ (by omega), hw.1 _ (by omega)]) ⟨by rw [hs.2, hw.2 _ (by decide)], by rw [hs.2, hw.2 _ (by decide)]⟩
theorem inv_newc {s s2 : Nat → Int32} (h : InvS s) (c0 kd n : Nat) (o t2 : Int32) (hc0 : N s 8522 = c0) (hc9 : c0 < 100) (h22 : s2 8522 = nI (c0 + 1)) (hk : s2 c0 = nI kd) (hkd : kd ≤ 4) (hr : s2 (100 + c0) = nI n) (hn18 : n ≤ 18) (h4n : kd = 4 → n = 0) (ho : s2 (200 + c0) = o) (hoz : z_or o (fun x => x < c0 ∧ s x ≠ 4)) (ht : s2 (300 + c0) = t2) (htz : z_or t2 (fun x => x < c0 ∧ s x ≠ 4)) (hh : ∀ j, j < 18 → s2 (400 + 18 * c0 + j) = 0) (hn : ∀ i, i ≠ 8522 ∧ i ≠ c0 ∧ i ≠ 100 + c0 ∧ i ≠ 200 + c0 ∧ i ≠ 300 + c0 ∧ ¬ (400 + 18 * c0 ≤ i ∧ i < 418 + 18 * c0) → s2 i = s i) : InvS s2 := by
  obtain ⟨h1, h2, h3, h4, h5, h6, h7, h8, h9, h10, h11, h12, h13, h14, h15, h16⟩ := id h
  obtain ⟨b1, b2, b3, b4, b5, b6, b7, b8⟩ := h.bnd
  have hN : ∀ i, i ≠ 8522 ∧ i ≠ c0 ∧ i ≠ 100 + c0 ∧ i ≠ 200 + c0 ∧ i ≠ 300 + c0 ∧ ¬ (400 + 18 * c0 ≤ i ∧ i < 418 + 18 * c0) → N s2 i = N s i := fun i q => by unfold N; rw [hn i q]
  have e22 : N s2 8522 = c0 + 1 := by unfold N; rw [h22, nI_clamp (by omega)]
  refine ⟨?_, ?_, ?_, ?_, ?_, ?_, ?_, ?_, ?_, ?_, ?_, ?_, ?_, ?_, ?_, ?_⟩
  · rw [e22]; exact ⟨h22, by omega⟩
  · rw [hN 8523 (by omega), hn 8523 (by omega)]; exact h2
  · rw [hN 8524 (by omega), hn 8524 (by omega)]; exact h3
  · rw [hN 8525 (by omega), hn 8525 (by omega)]; exact h4
  · rw [hN 8526 (by omega), hn 8526 (by omega)]; exact h5
  · rw [hN 8527 (by omega), hn 8527 (by omega)]; exact h6
  · rw [hn 8528 (by omega)]; exact h7
  · intro c hc
    rw [e22] at hc
    by_cases e : c = c0
    · rw [e]
      refine ⟨?_, Or.inr ⟨n, hn18, hr⟩, fun q => ?_, fun q => ?_, ?_, ?_⟩
      · rw [show N s2 c0 = kd by unfold N; rw [hk, nI_clamp (by omega)]]; exact ⟨hk, hkd⟩
      · rw [hr] at q; exact absurd q (nI_m1 (by omega))
      · rw [hk] at q; rw [hr, h4n ((nI_eq (b := 4) (by omega) (by decide)).mp q)]; rfl
      · rw [ho]; exact hoz.imp id (fun ⟨x, ⟨x1, x2⟩, x3⟩ => ⟨x, ⟨by rw [e22]; omega, by rw [hn x (by omega)]; exact x2⟩, x3⟩)
      · rw [ht]; exact htz.imp id (fun ⟨x, ⟨x1, x2⟩, x3⟩ => ⟨x, ⟨by rw [e22]; omega, by rw [hn x (by omega)]; exact x2⟩, x3⟩)
    · obtain ⟨p1, p2, p3, p4, p5, p6⟩ := h8 c (by omega)
      refine ⟨by rw [hN c (by omega), hn c (by omega)]; exact p1, by rw [hn (100 + c) (by omega)]; exact p2, by rw [hn (100 + c) (by omega), hn c (by omega)]; exact p3, by rw [hn (100 + c) (by omega), hn c (by omega)]; exact p4, ?_, ?_⟩
      · rw [hn (200 + c) (by omega)]; exact p5.imp id (fun ⟨x, ⟨x1, x2⟩, x3⟩ => ⟨x, ⟨by rw [e22]; omega, by rw [hn x (by omega)]; exact x2⟩, x3⟩)
      · rw [hn (300 + c) (by omega)]; exact p6.imp id (fun ⟨x, ⟨x1, x2⟩, x3⟩ => ⟨x, ⟨by rw [e22]; omega, by rw [hn x (by omega)]; exact x2⟩, x3⟩)
  · intro c j hc hj
    rw [e22] at hc
    by_cases e : c = c0
    · rw [e, show N s2 (400 + 18 * c0 + j) = 0 by unfold N; rw [hh j hj]; rfl, hh j hj]
      exact ⟨rfl, by decide, Nat.le_trans (by decide : popc 10 0 ≤ 0) (Nat.zero_le _), fun _ => rfl⟩
    · rw [hN (400 + 18 * c + j) (by omega), hn (400 + 18 * c + j) (by omega), hN c (by omega), hN (100 + c) (by omega)]
      exact h9 c j (by omega) hj
  · intro q j hj
    rw [hn 8528 (by omega)] at q
    rw [hN (8504 + j) (by omega), hn (8504 + j) (by omega), hN 8528 (by omega)]
    exact h10 q j hj
  · intro k hk
    rw [hN 8523 (by omega)] at hk
    rw [hN (2200 + k) (by omega), hn (2200 + k) (by omega), hn (4100 + k) (by omega), hN 8526 (by omega)]
    exact h11 k hk
  · intro k i2 hk hi2
    rw [hN 8523 (by omega)] at hk
    rw [hN (2200 + k) (by omega)] at hi2
    have hl := (h11 k hk).1.2
    rw [hN (2300 + 18 * k + i2) (by omega), hn (2300 + 18 * k + i2) (by omega)]
    exact h12 k i2 hk hi2
  · intro k d hk hd
    rw [hN 8523 (by omega)] at hk
    rw [hN 8525 (by omega), hn (4504 + 40 * k + d) (by omega)]
    exact h13 k d hk hd
  · intro c hc
    rw [hN 8524 (by omega)] at hc
    rw [hN (4200 + c) (by omega), hn (4200 + c) (by omega), hN (4212 + c) (by omega), hn (4212 + c) (by omega)]
    exact h14 c hc
  · intro c p hc hp
    rw [hN 8524 (by omega)] at hc
    rw [hN (4212 + c) (by omega)] at hp
    have hl := (h14 c hc).2.2
    rw [hn (4224 + 20 * c + p) (by omega)]
    exact (h15 c p hc hp).imp id (fun ⟨x, x1, x3⟩ => ⟨x, by have x1 : x < N s 8522 := x1; show x < N s2 8522; rw [e22]; omega, x3⟩)
  · intro d hd
    rw [hN 8525 (by omega)] at hd
    rw [hn (4464 + d) (by omega)]
    exact (h16 d hd).imp id (fun ⟨x, x1, x3⟩ => ⟨x, by have x1 : x < N s 8522 := x1; show x < N s2 8522; rw [e22]; omega, x3⟩)
theorem corr_newc {τ τ1 : kT} {s s2 : Nat → Int32} (hI : InvS s) (hC : Corr τ 1 s) (c0 kd n : Nat) (o t2 : Int32) (hc0 : N s 8522 = c0) (hc9 : c0 < 100) (h22 : s2 8522 = nI (c0 + 1)) (hk : s2 c0 = nI kd) (hkd : kd ≤ 4) (hr : s2 (100 + c0) = nI n) (hn18 : n ≤ 18) (h4n : kd = 4 → n = 0) (ho : s2 (200 + c0) = o) (hoz : z_or o (fun x => x < c0 ∧ s x ≠ 4)) (ht : s2 (300 + c0) = t2) (htz : z_or t2 (fun x => x < c0 ∧ s x ≠ 4)) (hh : ∀ j, j < 18 → s2 (400 + 18 * c0 + j) = 0) (x25 : q_i τ1 2 5 = nI (c0 + 1)) (x26 : q_i τ1 2 6 = q_i τ 2 6) (x3 : q_i τ1 3 = upd (q_i τ 3) c0 (nI kd)) (x4 : q_i τ1 4 = upd (q_i τ 4) c0 (nI n)) (x5 : q_i τ1 5 = fillN (q_i τ 5) (c0 * 18) 0 n) (x6 : q_i τ1 6 = upd (q_i τ 6) c0 o) (x7 : q_i τ1 7 = upd (q_i τ 7) c0 t2) (hn : ∀ i, i ≠ 8522 ∧ i ≠ c0 ∧ i ≠ 100 + c0 ∧ i ≠ 200 + c0 ∧ i ≠ 300 + c0 ∧ ¬ (400 + 18 * c0 ≤ i ∧ i < 418 + 18 * c0) → s2 i = s i) (hx : ∀ x, x = 1 ∨ (8 ≤ x ∧ x < 20) → q_i τ1 x = q_i τ x) (hl : ∀ (k d : Nat), wishOf (q_l τ1 (1 + 12) k) (q_l τ1 (1 + 13) k) d = wishOf (q_l τ (1 + 12) k) (q_l τ (1 + 13) k) d) : Corr τ1 1 s2 := by
  obtain ⟨b1, b2, b3, b4, b5, b6, b7, b8⟩ := hI.bnd
  have hN : ∀ i, i ≠ 8522 ∧ i ≠ c0 ∧ i ≠ 100 + c0 ∧ i ≠ 200 + c0 ∧ i ≠ 300 + c0 ∧ ¬ (400 + 18 * c0 ≤ i ∧ i < 418 + 18 * c0) → N s2 i = N s i := fun i q => by unfold N; rw [hn i q]
  have e22 : N s2 8522 = c0 + 1 := by unfold N; rw [h22, nI_clamp (by omega)]
  refine ⟨?_, fun k d hk hd => ?_⟩
  · rintro ⟨t, c, j⟩ h
    match t, h with
    | 0, h =>
      obtain ⟨hc7, rfl⟩ := h
      match c, hc7 with
      | 0, _ =>
        show q_i τ1 1 4 = s2 8525
        rw [hx 1 (by omega), hn 8525 (by omega)]
        exact hC.1 (0, 0, 0) ⟨by decide, rfl⟩
      | 1, _ =>
        show q_i τ1 1 5 = s2 8526
        rw [hx 1 (by omega), hn 8526 (by omega)]
        exact hC.1 (0, 1, 0) ⟨by decide, rfl⟩
      | 2, _ =>
        show q_i τ1 1 6 = s2 8527
        rw [hx 1 (by omega), hn 8527 (by omega)]
        exact hC.1 (0, 2, 0) ⟨by decide, rfl⟩
      | 3, _ =>
        show q_i τ1 2 5 = s2 8522
        rw [x25]; exact h22.symm
      | 4, _ =>
        show q_i τ1 2 6 = s2 8528
        rw [x26, hn 8528 (by omega)]
        exact hC.1 (0, 4, 0) ⟨by decide, rfl⟩
      | 5, _ =>
        show q_i τ1 9 5 = s2 8523
        rw [hx 9 (by omega), hn 8523 (by omega)]
        exact hC.1 (0, 5, 0) ⟨by decide, rfl⟩
      | 6, _ =>
        show q_i τ1 15 3 = s2 8524
        rw [hx 15 (by omega), hn 8524 (by omega)]
        exact hC.1 (0, 6, 0) ⟨by decide, rfl⟩
    | 1, h =>
      have h : c < N s2 8522 ∧ j = 0 := h
      rw [e22] at h
      obtain ⟨g1, rfl⟩ := h
      show q_i τ1 3 c = s2 (c)
      rw [x3, upd_at]
      by_cases e : c = c0
      · rw [if_pos e, e]; exact hk.symm
      · rw [if_neg e, hn (c) (by omega)]
        exact hC.1 (1, c, 0) ⟨by show c < N s 8522; omega, rfl⟩
    | 2, h =>
      have h : c < N s2 8522 ∧ j = 0 := h
      rw [e22] at h
      obtain ⟨g1, rfl⟩ := h
      show q_i τ1 4 c = s2 (100 + c)
      rw [x4, upd_at]
      by_cases e : c = c0
      · rw [if_pos e, e]; exact hr.symm
      · rw [if_neg e, hn (100 + c) (by omega)]
        exact hC.1 (2, c, 0) ⟨by show c < N s 8522; omega, rfl⟩
    | 3, h =>
      have h : c < N s2 8522 ∧ j = 0 := h
      rw [e22] at h
      obtain ⟨g1, rfl⟩ := h
      show q_i τ1 6 c = s2 (200 + c)
      rw [x6, upd_at]
      by_cases e : c = c0
      · rw [if_pos e, e]; exact ho.symm
      · rw [if_neg e, hn (200 + c) (by omega)]
        exact hC.1 (3, c, 0) ⟨by show c < N s 8522; omega, rfl⟩
    | 4, h =>
      have h : c < N s2 8522 ∧ j = 0 := h
      rw [e22] at h
      obtain ⟨g1, rfl⟩ := h
      show q_i τ1 7 c = s2 (300 + c)
      rw [x7, upd_at]
      by_cases e : c = c0
      · rw [if_pos e, e]; exact ht.symm
      · rw [if_neg e, hn (300 + c) (by omega)]
        exact hC.1 (4, c, 0) ⟨by show c < N s 8522; omega, rfl⟩
    | 5, h =>
      have h : c < N s2 8522 ∧ j < N s2 (100 + c) := h
      rw [e22] at h
      obtain ⟨g1, g2⟩ := h
      show q_i τ1 5 (c * 18 + j) = s2 (400 + 18 * c + j)
      rw [x5]
      by_cases e : c = c0
      · rw [e] at g2 ⊢
        have g4 : N s2 (100 + c0) = n := by unfold N; rw [hr, nI_clamp (by omega)]
        rw [fillN_in (by omega), hh j (by omega)]
      · rw [hN (100 + c) (by omega)] at g2
        have g3 := b6 c (by omega)
        rw [fillN_out (by omega), hn (400 + 18 * c + j) (by omega)]
        exact hC.1 (5, c, j) ⟨by show c < N s 8522; omega, g2⟩
    | 6, h =>
      have h : c = 0 ∧ j < N s2 8528 := h
      rw [hN 8528 (by omega)] at h
      obtain ⟨rfl, g2⟩ := h
      show q_i τ1 8 j = s2 (8504 + j)
      rw [hx 8 (by omega), hn (8504 + j) (by omega)]
      exact hC.1 (6, 0, j) ⟨rfl, g2⟩
    | 7, h =>
      have h : c < N s2 8523 ∧ j = 0 := h
      rw [hN 8523 (by omega)] at h
      obtain ⟨g1, rfl⟩ := h
      show q_i τ1 10 c = s2 (2200 + c)
      rw [hx 10 (by omega), hn (2200 + c) (by omega)]
      exact hC.1 (7, c, 0) ⟨g1, rfl⟩
    | 8, h =>
      have h : c < N s2 8523 ∧ j = 0 := h
      rw [hN 8523 (by omega)] at h
      obtain ⟨g1, rfl⟩ := h
      show q_i τ1 12 c = s2 (4100 + c)
      rw [hx 12 (by omega), hn (4100 + c) (by omega)]
      exact hC.1 (8, c, 0) ⟨g1, rfl⟩
    | 9, h =>
      have h : c < N s2 8523 ∧ j < N s2 (2200 + c) := h
      rw [hN 8523 (by omega)] at h
      obtain ⟨g1, g2⟩ := h
      rw [hN (2200 + c) (by omega)] at g2
      have g3 := b7 c g1
      show q_i τ1 11 (c * 18 + j) = s2 (2300 + 18 * c + j)
      rw [hx 11 (by omega), hn (2300 + 18 * c + j) (by omega)]
      exact hC.1 (9, c, j) ⟨g1, g2⟩
    | 10, h =>
      have h : c < N s2 8524 ∧ j = 0 := h
      rw [hN 8524 (by omega)] at h
      obtain ⟨g1, rfl⟩ := h
      show q_i τ1 16 c = s2 (4200 + c)
      rw [hx 16 (by omega), hn (4200 + c) (by omega)]
      exact hC.1 (10, c, 0) ⟨g1, rfl⟩
    | 11, h =>
      have h : c < N s2 8524 ∧ j = 0 := h
      rw [hN 8524 (by omega)] at h
      obtain ⟨g1, rfl⟩ := h
      show q_i τ1 17 c = s2 (4212 + c)
      rw [hx 17 (by omega), hn (4212 + c) (by omega)]
      exact hC.1 (11, c, 0) ⟨g1, rfl⟩
    | 12, h =>
      have h : c < N s2 8524 ∧ j < N s2 (4212 + c) := h
      rw [hN 8524 (by omega)] at h
      obtain ⟨g1, g2⟩ := h
      rw [hN (4212 + c) (by omega)] at g2
      have g3 := b8 c g1
      show q_i τ1 18 (c * 20 + j) = s2 (4224 + 20 * c + j)
      rw [hx 18 (by omega), hn (4224 + 20 * c + j) (by omega)]
      exact hC.1 (12, c, j) ⟨g1, g2⟩
    | 13, h =>
      have h : c < N s2 8525 ∧ j = 0 := h
      rw [hN 8525 (by omega)] at h
      obtain ⟨g1, rfl⟩ := h
      show q_i τ1 19 c = s2 (4464 + c)
      rw [hx 19 (by omega), hn (4464 + c) (by omega)]
      exact hC.1 (13, c, 0) ⟨g1, rfl⟩
    | t + 14, h => exact h.elim
  · rw [hN 8523 (by omega)] at hk
    rw [hl k d, hn (4504 + 40 * k + d) (by omega)]
    exact hC.2 k d hk hd
/-! adding a cylinder: class -/
theorem c_addC {τ : kT} {c n : Nat} {a : Int32} (hm : q_i τ 2 5 = nI c) (hc : c < 100) (hn : n ≤ 18) {post : Int32 → kT → Prop} (h : ∀ τ2, WR τ τ2 → (∀ x, x = 1 ∨ (8 ≤ x ∧ x < 20) → q_i τ2 x = q_i τ x) → (∀ x, q_l τ2 x = q_l τ x) → q_i τ2 2 5 = nI (c + 1) → q_i τ2 2 6 = q_i τ 2 6 → q_i τ2 3 = upd (q_i τ 3) c a → q_i τ2 4 = upd (q_i τ 4) c (nI n) → q_i τ2 5 = fillN (q_i τ 5) (c * 18) 0 n → q_i τ2 6 = upd (q_i τ 6) c (-1) → q_i τ2 7 = upd (q_i τ 7) c (-1) → post (nI c) τ2) : T_X4_add a (nI n) τ post := by
  intro v1 h1 τ2 h2
  rw [hm] at h1 h2
  have h2 : τ2 = q_si τ 2 5 (nI (c + 1)) := by rw [h2]; exact congrArg (q_si τ 2 5) (nI_1 c)
  subst h1
  refine ⟨c, rfl, hc, fun τ4 h4 => ⟨c, rfl, hc, fun τ6 h6 => ⟨c, rfl, hc, fun τ8 h8 => ⟨c, rfl, hc, fun τ10 h10 => ?_⟩⟩⟩⟩
  have a25 : q_i τ10 2 5 = nI (c + 1) := by rw [h10, h8, h6, h4, h2]; rfl
  have a26 : q_i τ10 2 6 = q_i τ 2 6 := by rw [h10, h8, h6, h4, h2]; rfl
  have a3 : q_i τ10 3 = upd (q_i τ 3) c a := by rw [h10, h8, h6, h4, h2]; rfl
  have a4 : q_i τ10 4 = upd (q_i τ 4) c (nI n) := by rw [h10, h8, h6, h4, h2]; rfl
  have a5 : q_i τ10 5 = q_i τ 5 := by rw [h10, h8, h6, h4, h2]; rfl
  have a6 : q_i τ10 6 = upd (q_i τ 6) c (-1) := by rw [h10, h8, h6, h4, h2]; rfl
  have a7 : q_i τ10 7 = upd (q_i τ 7) c (-1) := by rw [h10, h8, h6, h4, h2]; rfl
  have al : ∀ x, q_l τ10 x = q_l τ x := fun x => by rw [h10, h8, h6, h4, h2]; rfl
  have ax : ∀ x, x ≠ 2 → x ≠ 3 → x ≠ 4 → x ≠ 6 → x ≠ 7 → q_i τ10 x = q_i τ x := fun x n2 n3 n4 n6 n7 => by
    rw [h10, q_i_si, if_neg n7, h8, q_i_si, if_neg n6, h6, q_i_si, if_neg n4, h4, q_i_si, if_neg n3, h2, q_i_si, if_neg n2]
  have key : ∀ m j τ2, j + m = n → W1 5 τ10 τ2 (fillN (q_i τ 5) (c * 18) 0 j) → L_X4_add_46 a (nI n) (nI c) (fun v16 τ17 => post (nI c) τ17) post (m + 1) (nI j) τ2 := by
    intro m
    induction m with
    | zero =>
      intro j τ2 hj hW
      have hj : j = n := by omega
      subst hj
      obtain ⟨w1, w2, w3⟩ := hW
      unfold L_X4_add_46
      refine br_t (nI_le (Nat.le_refl _) (by omega)) (h τ2 ⟨fun x hx => ?_, fun x hx => ?_⟩ (fun x hx => ?_) (fun x => ?_) ?_ ?_ ?_ ?_ w3 ?_ ?_)
      · rw [w1 x (by omega), ax x (by omega) (by omega) (by omega) (by omega) (by omega)]
      · rw [w2, al]
      · rw [w1 x (by omega), ax x (by omega) (by omega) (by omega) (by omega) (by omega)]
      · rw [w2, al]
      · rw [w1 2 (by decide)]; exact a25
      · rw [w1 2 (by decide)]; exact a26
      · rw [w1 3 (by decide)]; exact a3
      · rw [w1 4 (by decide)]; exact a4
      · rw [w1 6 (by decide)]; exact a6
      · rw [w1 7 (by decide)]; exact a7
    | succ m ih =>
      intro j τ2 hj hW
      unfold L_X4_add_46
      refine br_f (nI_ge (by omega) (by omega)) (s_setHeights (n := c + 1) (r := n) (by rw [hW.1 2 (by decide)]; exact a25) (by omega) (by omega) (by rw [hW.1 4 (by decide), a4, upd_eq]) hn (by omega) (fun v14 h14 => ?_))
      rw [h14, show nI j + 1 = nI (j + 1) from nI_1 j]
      refine ih (j + 1) _ (by omega) ?_
      rw [← fillN_1]
      exact hW.set _ _
  refine ⟨n + 1, key n 0 τ10 (by omega) ?_⟩
  rw [fillN_0, ← a5]
  exact W1.refl 5 τ10
/-! and the reference -/
def newC (s : Nat → Int32) (c : Nat) (a b o t : Int32) : Nat → Int32 := upd (fillN (upd (upd (upd (upd s c a) (100 + c) b) (200 + c) o) (300 + c) t) (400 + 18 * c) 0 18) 8522 (nI (c + 1))
theorem newC_n {s : Nat → Int32} {c : Nat} {a b o t : Int32} (hc : c < 100) : (∀ i, i ≠ 8522 ∧ i ≠ c ∧ i ≠ 100 + c ∧ i ≠ 200 + c ∧ i ≠ 300 + c ∧ ¬ (400 + 18 * c ≤ i ∧ i < 418 + 18 * c) → newC s c a b o t i = s i) ∧ newC s c a b o t 8522 = nI (c + 1) ∧ newC s c a b o t c = a ∧ newC s c a b o t (100 + c) = b ∧ newC s c a b o t (200 + c) = o ∧ newC s c a b o t (300 + c) = t ∧ (∀ j, j < 18 → newC s c a b o t (400 + 18 * c + j) = 0) := by
  unfold newC
  refine ⟨fun i hi => ?_, upd_eq, ?_, ?_, ?_, ?_, fun j hj => ?_⟩
  · rw [upd_ne hi.1, fillN_out (by omega), upd_ne (by omega), upd_ne (by omega), upd_ne (by omega), upd_ne (by omega)]
  · rw [upd_ne (by omega), fillN_out (by omega), upd_ne (by omega), upd_ne (by omega), upd_ne (by omega), upd_eq]
  · rw [upd_ne (by omega), fillN_out (by omega), upd_ne (by omega), upd_ne (by omega), upd_eq]
  · rw [upd_ne (by omega), fillN_out (by omega), upd_ne (by omega), upd_eq]
  · rw [upd_ne (by omega), fillN_out (by omega), upd_eq]
  · rw [upd_ne (by omega), fillN_in (by omega)]
theorem r_newC {τ : kT} {c : Nat} {a b o t : Int32} (hz : ∀ k, 8530 ≤ k → q_i τ 67 k = 0 ∧ q_i τ 68 k = 0) (hm : q_i τ 67 8522 = nI c) (hc : c < 100) {post : Int32 → kT → Prop} (h : ∀ τ2, refW τ τ2 (newC (q_i τ 67) c a b o t) (upd (upd (q_i τ 66) 2 1) 4 0) → post (nI c) τ2) : T_X11_newCylinder a b o t τ post := by
  refine s_change hz (fun v3 h3 => ?_)
  obtain ⟨τ2, e2⟩ : ∃ τ2, τ2 = q_si (q_wi τ 68 (q_i τ 67)) 66 2 1 := ⟨_, rfl⟩
  rw [← e2] at h3 ⊢
  have z67 : q_i τ2 67 = q_i τ 67 := by rw [e2]; rfl
  have h3 : v3 = nI c := by rw [h3, z67]; exact hm
  subst h3
  refine ⟨c, ev_0a c, by omega, fun τ5 h5 => ⟨100 + c, nI_add 100 c, by omega, fun τ7 h7 => ⟨200 + c, nI_add 200 c, by omega, fun τ9 h9 => ⟨300 + c, nI_add 300 c, by omega, fun τ11 h11 => ?_⟩⟩⟩⟩
  have w0 : W1 67 τ2 τ11 (upd (upd (upd (upd (q_i τ 67) c a) (100 + c) b) (200 + c) o) (300 + c) t) := by
    rw [h11, h9, h7, h5, ← z67]
    exact ((((W1.refl 67 τ2).set _ _).set _ _).set _ _).set _ _
  have key : ∀ m j τ3, j + m = 18 → W1 67 τ2 τ3 (fillN (upd (upd (upd (upd (q_i τ 67) c a) (100 + c) b) (200 + c) o) (300 + c) t) (400 + 18 * c) 0 j) → L_X11_newCylinder_63 a b o t (nI c) (fun v17 τ18 => (∀ τ19 : kT, τ19 = q_si τ18 67 8522 (nI c + (1 : Int32)) → (T_X11_well (nI c) τ19 (fun r20 τ21 => post r20 τ21)))) post (m + 1) (nI j) τ3 := by
    intro m
    induction m with
    | zero =>
      intro j τ3 hj hW
      have hj : j = 18 := by omega
      subst hj
      unfold L_X11_newCylinder_63
      refine br_t (by decide) (fun τ19 h19 => s_well (h _ ?_))
      have hW2 := hW.set 8522 (nI c + 1)
      rw [← h19, show nI c + 1 = nI (c + 1) from nI_1 c] at hW2
      obtain ⟨w1, w2, w3⟩ := hW2
      refine ⟨fun x hx => ?_, fun x hx => ?_, ?_, ?_, ?_, ?_⟩
      · rw [q_i_si, if_neg (by omega), w1 x (by omega), e2, q_i_si, if_neg (by omega), q_i_wi, if_neg (by omega)]
      · show q_l τ19 x = _; rw [w2, e2]; rfl
      · show q_i τ19 67 = _; exact w3
      · show q_i τ19 68 = _; rw [w1 68 (by decide), e2]; rfl
      · rw [q_i_si, if_pos rfl, w1 66 (by decide), e2]; rfl
      · show q_i τ19 69 = _; rw [w1 69 (by decide), e2]; rfl
    | succ m ih =>
      intro j τ3 hj hW
      unfold L_X11_newCylinder_63
      refine br_f (nI_ge (b := 18) (by omega) (by decide)) ⟨400 + 18 * c + j, ev_3 400 18 c j, by omega, fun τ14 h14 v15 h15 => ?_⟩
      rw [h14, h15, show nI j + 1 = nI (j + 1) from nI_1 j]
      refine ih (j + 1) _ (by omega) ?_
      rw [← fillN_1]
      exact hW.set _ _
  refine ⟨19, key 18 0 τ11 (by omega) ?_⟩
  rw [fillN_0]
  exact w0
/-- both sides of a new cylinder -/
theorem J_newC {τ τr τ1 τ2 : kT} {c kd n : Nat} {o t : Int32} (hJ : J τ) (hr : remP τ τr) (hcN : N (q_i τ 67) 8522 = c) (hc : c < 100) (hkd : kd ≤ 4) (hn : n ≤ 18) (h4 : kd = 4 → n = 0) (ho : z_or o (fun x => x < c ∧ q_i τ 67 x ≠ 4)) (ht : z_or t (fun x => x < c ∧ q_i τ 67 x ≠ 4))
    (w1 : WR τr τ1) (wx : ∀ x, x = 1 ∨ (8 ≤ x ∧ x < 20) → q_i τ1 x = q_i τr x) (wl : ∀ x, q_l τ1 x = q_l τr x) (x25 : q_i τ1 2 5 = nI (c + 1)) (x26 : q_i τ1 2 6 = q_i τr 2 6) (x3 : q_i τ1 3 = upd (q_i τr 3) c (nI kd)) (x4 : q_i τ1 4 = upd (q_i τr 4) c (nI n)) (x5 : q_i τ1 5 = fillN (q_i τr 5) (c * 18) 0 n) (x6 : q_i τ1 6 = upd (q_i τr 6) c o) (x7 : q_i τ1 7 = upd (q_i τr 7) c t)
    (hR : refW (q_si τ1 0 4 0) τ2 (newC (q_i τ 67) c (nI kd) (nI n) o t) (upd (upd (q_i τ 66) 2 1) 4 0)) : J τ2 := by
  obtain ⟨n1, n2, n3, n4, n5, n6, n7⟩ := newC_n (s := q_i τ 67) (c := c) (a := nI kd) (b := nI n) (o := o) (t := t) hc
  obtain ⟨-, -, -, -, -, ⟨s3, s4, s5⟩, -⟩ := id hJ
  have g : ∀ x, x < 19 → q_i τr (1 + x) = q_i τ (1 + x) := hr.now.1
  have gl := hr.now.2
  refine J_mul (τr := τr) (τ1 := τ1) (τs := q_si τ1 0 4 0) (f := upd (upd (q_i τ 0) 2 1) 4 0) hJ (fun x h0 h20 => hr.1 x h0 h20) hr.2.2.2 w1 ⟨fun x hx => by rw [q_i_si, if_neg hx], fun _ => rfl⟩ ?_ hR ⟨rfl, rfl, s3, rfl, s5, rfl, rfl, rfl⟩ ?_ ?_ (fun k hk => ?_)
  · rw [q_i_si, if_pos rfl, w1.1 0 (by decide), hr.2.2.1]
  · exact inv_newc hJ.1 c kd n o t hcN hc n2 n3 hkd n4 hn h4 n5 ho n6 ht n7 n1
  · refine corr_newc hJ.1 hJ.2.1 c kd n o t hcN hc n2 n3 hkd n4 hn h4 n5 ho n6 ht n7 x25 (by rw [x26, g 1 (by decide)]) (by rw [x3, g 2 (by decide)]) (by rw [x4, g 3 (by decide)]) (by rw [x5, g 4 (by decide)]) (by rw [x6, g 5 (by decide)]) (by rw [x7, g 6 (by decide)]) n1 (fun x hx => ?_) (fun k d => ?_)
    · rw [wx x hx]
      have := g (x - 1) (by omega)
      rw [show 1 + (x - 1) = x by omega] at this
      exact this
    · rw [wl, wl, gl.1, gl.2]
  · rw [n1 k (by omega)]; exact (hJ.hz k hk).1
