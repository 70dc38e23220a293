/-! ===== one wish ===== -/
set_option maxRecDepth 100000 in
theorem wb_1 : ∀ d, d < 40 → ∀ e, e < 40 → ((1 : Int64) <<< Int64.ofNat d) &&& ((1 : Int64) <<< Int64.ofNat e) = if d = e then (1 : Int64) <<< Int64.ofNat d else (0 : Int64) := by decide
set_option maxRecDepth 100000 in
theorem wb_2 : ∀ d, d < 40 → ∀ e, e < 40 → (((1 : Int64) <<< Int64.ofNat d) ^^^ (-1 : Int64)) &&& ((1 : Int64) <<< Int64.ofNat e) = if d = e then (0 : Int64) else (1 : Int64) <<< Int64.ofNat e := by decide
set_option maxRecDepth 100000 in
theorem wb_3 : ∀ d, d < 40 → ((1 : Int64) <<< Int64.ofNat d) ≠ 0 := by decide
set_option maxRecDepth 100000 in
theorem wb_4 : ∀ d, d < 40 → (nI d).toInt64 &&& 63 = Int64.ofNat d := by decide
theorem wb_dst (o M E : Int64) : (o ||| M) &&& E = (o &&& E) ||| (M &&& E) := by
  apply Int64.toBitVec_inj.mp
  rw [Int64.toBitVec_and, Int64.toBitVec_or, Int64.toBitVec_or, Int64.toBitVec_and, Int64.toBitVec_and]
  ext i
  simp only [BitVec.getElem_and, BitVec.getElem_or, Bool.and_or_distrib_right]
theorem wb_orn (a b : Int64) (h : b ≠ 0) : a ||| b ≠ 0 := by
  intro q
  apply h
  apply Int64.toBitVec_inj.mp
  have q : (a ||| b).toBitVec = (0 : Int64).toBitVec := by rw [q]
  rw [Int64.toBitVec_or] at q
  ext i hi
  have := congrArg (fun v => v[i]) q
  simp only [BitVec.getElem_or] at this
  have z : (0 : Int64).toBitVec[i] = false := by simp
  rw [z] at this ⊢
  exact (Bool.or_eq_false_iff.mp this).2
theorem wb_or {o : Int64} {d e : Nat} (hd : d < 40) (he : e < 40) : (o ||| ((1 : Int64) <<< Int64.ofNat d)) &&& ((1 : Int64) <<< Int64.ofNat e) ≠ 0 ↔ (e = d ∨ o &&& ((1 : Int64) <<< Int64.ofNat e) ≠ 0) := by
  rw [wb_dst, wb_1 d hd e he]
  by_cases q : d = e
  · rw [if_pos q]
    exact ⟨fun _ => Or.inl q.symm, fun _ => wb_orn _ _ (wb_3 d hd)⟩
  · rw [if_neg q, Int64.or_zero]
    exact ⟨fun y => Or.inr y, fun y => y.resolve_left (fun z => q z.symm)⟩
theorem wb_clr {o : Int64} {d e : Nat} (hd : d < 40) (he : e < 40) : (o &&& (((1 : Int64) <<< Int64.ofNat d) ^^^ (-1 : Int64))) &&& ((1 : Int64) <<< Int64.ofNat e) ≠ 0 ↔ (e ≠ d ∧ o &&& ((1 : Int64) <<< Int64.ofNat e) ≠ 0) := by
  rw [Int64.and_assoc, wb_2 d hd e he]
  by_cases q : d = e
  · rw [if_pos q, Int64.and_zero]
    exact ⟨fun y => absurd rfl y, fun y => absurd q.symm y.1⟩
  · rw [if_neg q]
    exact ⟨fun y => ⟨fun z => q z.symm, y⟩, fun y => y.2⟩
def wO (v d : Nat) (o : Int64) : Int64 := if v = 1 then o ||| ((1 : Int64) <<< Int64.ofNat d) else o &&& (((1 : Int64) <<< Int64.ofNat d) ^^^ (-1 : Int64))
def wN (v d : Nat) (o : Int64) : Int64 := if v = 2 then o ||| ((1 : Int64) <<< Int64.ofNat d) else o &&& (((1 : Int64) <<< Int64.ofNat d) ^^^ (-1 : Int64))
theorem wish_bits {v d : Nat} (hv : v < 3) (hd : d < 40) (o n : Int64) (e : Nat) (he : e < 40) : wishOf (wO v d o) (wN v d n) e = if e = d then nI v else wishOf o n e := by
  unfold wishOf wO wN
  match v, hv with
  | 0, _ =>
    rw [if_neg (by decide : ¬ (0 : Nat) = 1), if_neg (by decide : ¬ (0 : Nat) = 2)]
    simp only [wb_clr hd he]
    by_cases q : e = d
    · rw [if_neg (fun y => y.1 q), if_neg (fun y => y.1 q), if_pos q]; rfl
    · simp only [q, ne_eq, not_false_iff, true_and, if_false]
  | 1, _ =>
    rw [if_pos rfl, if_neg (by decide : ¬ (1 : Nat) = 2)]
    simp only [wb_clr hd he, wb_or hd he]
    by_cases q : e = d
    · rw [if_pos (Or.inl q), if_neg (fun y => y.1 q), if_pos q]; rfl
    · simp only [q, ne_eq, not_false_iff, true_and, if_false, false_or]
  | 2, _ =>
    rw [if_neg (by decide : ¬ (2 : Nat) = 1), if_pos rfl]
    simp only [wb_clr hd he, wb_or hd he]
    by_cases q : e = d
    · rw [if_neg (fun y => y.1 q), if_pos (Or.inl q), if_pos q]; rfl
    · simp only [q, ne_eq, not_false_iff, true_and, if_false, false_or]
theorem s_wishFor {τ : kT} {k d : Nat} (hk : k < 100) (hd : d < 40) (h3 : wishOf (q_l τ 13 k) (q_l τ 14 k) d ≠ 3) {post : Int32 → kT → Prop} (h : post (wishOf (q_l τ 13 k) (q_l τ 14 k) d) τ) : T_X5_wishFor (nI k) (nI d) τ post := by
  intro v1 h1
  rw [wb_4 d hd] at h1
  subst h1
  unfold wishOf at h h3
  refine ⟨k, rfl, hk, ?_⟩
  by_cases q : q_l τ 13 k &&& ((1 : Int64) <<< Int64.ofNat d) = 0
  · refine br_t (s_cmp.2.2.mpr q) ⟨k, rfl, hk, ?_⟩
    rw [if_neg (fun y => y q)] at h
    by_cases q2 : q_l τ 14 k &&& ((1 : Int64) <<< Int64.ofNat d) = 0
    · rw [if_neg (fun y => y q2)] at h
      exact br_t (s_cmp.2.2.mpr q2) h
    · rw [if_pos q2] at h
      exact br_f (fun y => q2 (s_cmp.2.2.mp y)) h
  · rw [if_pos q] at h h3
    rw [if_neg (fun y => h3 (if_pos y))] at h
    exact br_f (fun y => q (s_cmp.2.2.mp y)) h
theorem s_exchangeWish {τ : kT} {k d v : Nat} (hk : k < 100) (hd : d < 40) (hv : v < 3) (h3 : wishOf (q_l τ 13 k) (q_l τ 14 k) d ≠ 3) {post : Int32 → kT → Prop} (h : post (wishOf (q_l τ 13 k) (q_l τ 14 k) d) (q_sl (q_sl τ 13 k (wO v d (q_l τ 13 k))) 14 k (wN v d (q_l τ 14 k)))) : T_X5_exchangeWish (nI k) (nI d) (nI v) τ post := by
  refine s_wishFor hk hd h3 (fun v3 h3 => ?_)
  rw [wb_4 d hd] at h3
  subst h3
  unfold wO wN at h
  match v, hv with
  | 0, _ => exact bn_t (by decide) ⟨k, rfl, hk, k, rfl, hk, fun τ7 h7 => bn_t (by decide) ⟨k, rfl, hk, k, rfl, hk, fun τ11 h11 => by rw [h11, h7]; exact h⟩⟩
  | 1, _ => exact bn_f rfl ⟨k, rfl, hk, k, rfl, hk, fun τ7 h7 => bn_t (by decide) ⟨k, rfl, hk, k, rfl, hk, fun τ11 h11 => by rw [h11, h7]; exact h⟩⟩
  | 2, _ => exact bn_t (by decide) ⟨k, rfl, hk, k, rfl, hk, fun τ7 h7 => bn_f rfl ⟨k, rfl, hk, k, rfl, hk, fun τ11 h11 => by rw [h11, h7]; exact h⟩⟩
theorem inv_wish {s s2 : Nat → Int32} (h : InvS s) (k0 d0 v : Nat) (hk0 : k0 < N s 8523) (hd0 : d0 < N s 8525) (hv : v < 3) (hw : s2 (4504 + 40 * k0 + d0) = nI v) (hn : ∀ i, i ≠ 4504 + 40 * k0 + d0 → s2 i = s i) : InvS s2 := by
  obtain ⟨h1, h2, h3, h4, h5, h6, h7, h8, h9, h10, h11, h12, h13, h14, h15, h16⟩ := id h
  obtain ⟨b1, b2, b3, b4, b5, b6, b7, b8⟩ := h.bnd
  have hN : ∀ i, i ≠ 4504 + 40 * k0 + d0 → N s2 i = N s i := fun i q => by unfold N; rw [hn i q]
  refine ⟨?_, ?_, ?_, ?_, ?_, ?_, ?_, ?_, ?_, ?_, ?_, ?_, ?_, ?_, ?_, ?_⟩
  · rw [hN 8522 (by omega), hn 8522 (by omega)]; exact h1
  · rw [hN 8523 (by omega), hn 8523 (by omega)]; exact h2
  · rw [hN 8524 (by omega), hn 8524 (by omega)]; exact h3
  · rw [hN 8525 (by omega), hn 8525 (by omega)]; exact h4
  · rw [hN 8526 (by omega), hn 8526 (by omega)]; exact h5
  · rw [hN 8527 (by omega), hn 8527 (by omega)]; exact h6
  · rw [hn 8528 (by omega)]; exact h7
  · intro c hc
    rw [hN 8522 (by omega)] at hc
    obtain ⟨p1, p2, p3, p4, p5, p6⟩ := h8 c hc
    refine ⟨by rw [hN c (by omega), hn c (by omega)]; exact p1, by rw [hn (100 + c) (by omega)]; exact p2, by rw [hn (100 + c) (by omega), hn c (by omega)]; exact p3, by rw [hn (100 + c) (by omega), hn c (by omega)]; exact p4, ?_, ?_⟩
    · rw [hn (200 + c) (by omega)]; exact p5.imp id (fun ⟨x, ⟨x1, x2⟩, x3⟩ => ⟨x, ⟨by rw [hN 8522 (by omega)]; exact x1, by rw [hn x (by omega)]; exact x2⟩, x3⟩)
    · rw [hn (300 + c) (by omega)]; exact p6.imp id (fun ⟨x, ⟨x1, x2⟩, x3⟩ => ⟨x, ⟨by rw [hN 8522 (by omega)]; exact x1, by rw [hn x (by omega)]; exact x2⟩, x3⟩)
  · intro c j hc hj
    rw [hN 8522 (by omega)] at hc
    rw [hN (400 + 18 * c + j) (by omega), hn (400 + 18 * c + j) (by omega), hN c (by omega), hN (100 + c) (by omega)]
    exact h9 c j hc hj
  · intro q j hj
    rw [hn 8528 (by omega)] at q
    rw [hN (8504 + j) (by omega), hn (8504 + j) (by omega), hN 8528 (by omega)]
    exact h10 q j hj
  · intro k hk
    rw [hN 8523 (by omega)] at hk
    rw [hN (2200 + k) (by omega), hn (2200 + k) (by omega), hn (4100 + k) (by omega), hN 8526 (by omega)]
    exact h11 k hk
  · intro k i2 hk hi2
    rw [hN 8523 (by omega)] at hk
    rw [hN (2200 + k) (by omega)] at hi2
    have hl := (h11 k hk).1.2
    rw [hN (2300 + 18 * k + i2) (by omega), hn (2300 + 18 * k + i2) (by omega)]
    exact h12 k i2 hk hi2
  · intro k d hk hd
    rw [hN 8523 (by omega)] at hk
    rw [hN 8525 (by omega)]
    by_cases e : k = k0 ∧ d = d0
    · obtain ⟨rfl, rfl⟩ := e
      rw [hw]
      match v, hv with
      | 0, _ => exact Or.inl rfl
      | 1, _ => exact Or.inr ⟨hd0, Or.inl rfl⟩
      | 2, _ => exact Or.inr ⟨hd0, Or.inr rfl⟩
    · rw [hn (4504 + 40 * k + d) (by omega)]
      exact h13 k d hk hd
  · intro c hc
    rw [hN 8524 (by omega)] at hc
    rw [hN (4200 + c) (by omega), hn (4200 + c) (by omega), hN (4212 + c) (by omega), hn (4212 + c) (by omega)]
    exact h14 c hc
  · intro c p hc hp
    rw [hN 8524 (by omega)] at hc
    rw [hN (4212 + c) (by omega)] at hp
    have hl := (h14 c hc).2.2
    rw [hn (4224 + 20 * c + p) (by omega), hN 8522 (by omega)]
    exact h15 c p hc hp
  · intro d hd
    rw [hN 8525 (by omega)] at hd
    rw [hn (4464 + d) (by omega), hN 8522 (by omega)]
    exact h16 d hd
theorem corr_wish {τ τ1 : kT} {s s2 : Nat → Int32} (hI : InvS s) (hC : Corr τ 1 s) (k0 d0 v : Nat) (hk0 : k0 < N s 8523) (hd0 : d0 < N s 8525) (hv : v < 3) (hw : s2 (4504 + 40 * k0 + d0) = nI v) (hn : ∀ i, i ≠ 4504 + 40 * k0 + d0 → s2 i = s i) (hx : ∀ x, 1 ≤ x ∧ x < 20 → q_i τ1 x = q_i τ x) (hl0 : ∀ k, k ≠ k0 → q_l τ1 13 k = q_l τ 13 k ∧ q_l τ1 14 k = q_l τ 14 k) (hl1 : ∀ d, d < 40 → wishOf (q_l τ1 13 k0) (q_l τ1 14 k0) d = if d = d0 then nI v else wishOf (q_l τ 13 k0) (q_l τ 14 k0) d) : Corr τ1 1 s2 := by
  obtain ⟨b1, b2, b3, b4, b5, b6, b7, b8⟩ := hI.bnd
  have hN : ∀ i, i ≠ 4504 + 40 * k0 + d0 → N s2 i = N s i := fun i q => by unfold N; rw [hn i q]
  refine ⟨?_, fun k d hk hd => ?_⟩
  · rintro ⟨t, c, j⟩ h
    match t, h with
    | 0, h =>
      obtain ⟨hc7, rfl⟩ := h
      match c, hc7 with
      | 0, _ =>
        show q_i τ1 1 4 = s2 8525
        rw [hx 1 (by omega), hn 8525 (by omega)]
        exact hC.1 (0, 0, 0) ⟨by decide, rfl⟩
      | 1, _ =>
        show q_i τ1 1 5 = s2 8526
        rw [hx 1 (by omega), hn 8526 (by omega)]
        exact hC.1 (0, 1, 0) ⟨by decide, rfl⟩
      | 2, _ =>
        show q_i τ1 1 6 = s2 8527
        rw [hx 1 (by omega), hn 8527 (by omega)]
        exact hC.1 (0, 2, 0) ⟨by decide, rfl⟩
      | 3, _ =>
        show q_i τ1 2 5 = s2 8522
        rw [hx 2 (by omega), hn 8522 (by omega)]
        exact hC.1 (0, 3, 0) ⟨by decide, rfl⟩
      | 4, _ =>
        show q_i τ1 2 6 = s2 8528
        rw [hx 2 (by omega), hn 8528 (by omega)]
        exact hC.1 (0, 4, 0) ⟨by decide, rfl⟩
      | 5, _ =>
        show q_i τ1 9 5 = s2 8523
        rw [hx 9 (by omega), hn 8523 (by omega)]
        exact hC.1 (0, 5, 0) ⟨by decide, rfl⟩
      | 6, _ =>
        show q_i τ1 15 3 = s2 8524
        rw [hx 15 (by omega), hn 8524 (by omega)]
        exact hC.1 (0, 6, 0) ⟨by decide, rfl⟩
    | 1, h =>
      have h : c < N s2 8522 ∧ j = 0 := h
      rw [hN 8522 (by omega)] at h
      obtain ⟨g1, rfl⟩ := h
      show q_i τ1 3 c = s2 (c)
      rw [hx 3 (by omega), hn (c) (by omega)]
      exact hC.1 (1, c, 0) ⟨g1, rfl⟩
    | 2, h =>
      have h : c < N s2 8522 ∧ j = 0 := h
      rw [hN 8522 (by omega)] at h
      obtain ⟨g1, rfl⟩ := h
      show q_i τ1 4 c = s2 (100 + c)
      rw [hx 4 (by omega), hn (100 + c) (by omega)]
      exact hC.1 (2, c, 0) ⟨g1, rfl⟩
    | 3, h =>
      have h : c < N s2 8522 ∧ j = 0 := h
      rw [hN 8522 (by omega)] at h
      obtain ⟨g1, rfl⟩ := h
      show q_i τ1 6 c = s2 (200 + c)
      rw [hx 6 (by omega), hn (200 + c) (by omega)]
      exact hC.1 (3, c, 0) ⟨g1, rfl⟩
    | 4, h =>
      have h : c < N s2 8522 ∧ j = 0 := h
      rw [hN 8522 (by omega)] at h
      obtain ⟨g1, rfl⟩ := h
      show q_i τ1 7 c = s2 (300 + c)
      rw [hx 7 (by omega), hn (300 + c) (by omega)]
      exact hC.1 (4, c, 0) ⟨g1, rfl⟩
    | 5, h =>
      have h : c < N s2 8522 ∧ j < N s2 (100 + c) := h
      rw [hN 8522 (by omega)] at h
      obtain ⟨g1, g2⟩ := h
      rw [hN (100 + c) (by omega)] at g2
      have g3 := b6 c g1
      show q_i τ1 5 (c * 18 + j) = s2 (400 + 18 * c + j)
      rw [hx 5 (by omega), hn (400 + 18 * c + j) (by omega)]
      exact hC.1 (5, c, j) ⟨g1, g2⟩
    | 6, h =>
      have h : c = 0 ∧ j < N s2 8528 := h
      rw [hN 8528 (by omega)] at h
      obtain ⟨rfl, g2⟩ := h
      show q_i τ1 8 j = s2 (8504 + j)
      rw [hx 8 (by omega), hn (8504 + j) (by omega)]
      exact hC.1 (6, 0, j) ⟨rfl, g2⟩
    | 7, h =>
      have h : c < N s2 8523 ∧ j = 0 := h
      rw [hN 8523 (by omega)] at h
      obtain ⟨g1, rfl⟩ := h
      show q_i τ1 10 c = s2 (2200 + c)
      rw [hx 10 (by omega), hn (2200 + c) (by omega)]
      exact hC.1 (7, c, 0) ⟨g1, rfl⟩
    | 8, h =>
      have h : c < N s2 8523 ∧ j = 0 := h
      rw [hN 8523 (by omega)] at h
      obtain ⟨g1, rfl⟩ := h
      show q_i τ1 12 c = s2 (4100 + c)
      rw [hx 12 (by omega), hn (4100 + c) (by omega)]
      exact hC.1 (8, c, 0) ⟨g1, rfl⟩
    | 9, h =>
      have h : c < N s2 8523 ∧ j < N s2 (2200 + c) := h
      rw [hN 8523 (by omega)] at h
      obtain ⟨g1, g2⟩ := h
      rw [hN (2200 + c) (by omega)] at g2
      have g3 := b7 c g1
      show q_i τ1 11 (c * 18 + j) = s2 (2300 + 18 * c + j)
      rw [hx 11 (by omega), hn (2300 + 18 * c + j) (by omega)]
      exact hC.1 (9, c, j) ⟨g1, g2⟩
    | 10, h =>
      have h : c < N s2 8524 ∧ j = 0 := h
      rw [hN 8524 (by omega)] at h
      obtain ⟨g1, rfl⟩ := h
      show q_i τ1 16 c = s2 (4200 + c)
      rw [hx 16 (by omega), hn (4200 + c) (by omega)]
      exact hC.1 (10, c, 0) ⟨g1, rfl⟩
    | 11, h =>
      have h : c < N s2 8524 ∧ j = 0 := h
      rw [hN 8524 (by omega)] at h
      obtain ⟨g1, rfl⟩ := h
      show q_i τ1 17 c = s2 (4212 + c)
      rw [hx 17 (by omega), hn (4212 + c) (by omega)]
      exact hC.1 (11, c, 0) ⟨g1, rfl⟩
    | 12, h =>
      have h : c < N s2 8524 ∧ j < N s2 (4212 + c) := h
      rw [hN 8524 (by omega)] at h
      obtain ⟨g1, g2⟩ := h
      rw [hN (4212 + c) (by omega)] at g2
      have g3 := b8 c g1
      show q_i τ1 18 (c * 20 + j) = s2 (4224 + 20 * c + j)
      rw [hx 18 (by omega), hn (4224 + 20 * c + j) (by omega)]
      exact hC.1 (12, c, j) ⟨g1, g2⟩
    | 13, h =>
      have h : c < N s2 8525 ∧ j = 0 := h
      rw [hN 8525 (by omega)] at h
      obtain ⟨g1, rfl⟩ := h
      show q_i τ1 19 c = s2 (4464 + c)
      rw [hx 19 (by omega), hn (4464 + c) (by omega)]
      exact hC.1 (13, c, 0) ⟨g1, rfl⟩
    | t + 14, h => exact h.elim
  · rw [hN 8523 (by omega)] at hk
    show wishOf (q_l τ1 13 k) (q_l τ1 14 k) d = _
    by_cases e : k = k0
    · subst e
      rw [hl1 d hd]
      by_cases e2 : d = d0
      · subst e2
        rw [if_pos rfl, hw]
      · rw [if_neg e2, hn (4504 + 40 * k + d) (by omega)]
        exact hC.2 k d hk hd
    · rw [(hl0 k e).1, (hl0 k e).2, hn (4504 + 40 * k + d) (by omega)]
      exact hC.2 k d hk hd
theorem k_wish_op : K_wish J := by
  intro a b c τ hJ
  obtain ⟨nk, hnk, k1, k2, k3⟩ := hJ.nk
  obtain ⟨nd, hnd, d1, d2, d3⟩ := hJ.nd
  unfold T_X10_wish
  by_cases hk : inn a nk
  case neg =>
    refine s_X5_has_f k1 (by omega) hk (br_t rfl ?_)
    unfold T_X11_wish
    exact s_X11_isKey_f k2 (by omega) hk (br_t rfl ⟨rfl, hJ⟩)
  obtain ⟨k, hk, rfl⟩ := hk
  refine s_X5_has_t k1 (by omega) hk (br_f (by decide) ?_)
  by_cases hd : inn b nd
  case neg =>
    refine s_X6_hasDoor_f d1 (by omega) hd (br_t rfl ?_)
    unfold T_X11_wish
    exact s_X11_isKey_t k2 (by omega) hk (br_f (by decide) (s_X11_isDoor_f d2 (by omega) hd (br_t rfl ⟨rfl, hJ⟩)))
  obtain ⟨d, hd, rfl⟩ := hd
  refine s_X6_hasDoor_t d1 (by omega) hd (br_f (by decide) ?_)
  by_cases hv : inn c 3
  case neg =>
    have bad : T_X11_wish (nI k) (nI d) c τ (fun r2 τ2 => -2 = r2 ∧ J τ2) := by
      unfold T_X11_wish
      exact s_X11_isKey_t k2 (by omega) hk (br_f (by decide) (s_X11_isDoor_t d2 (by omega) hd (br_f (by decide) (s_inL_f (n := 3) (by decide) (by omega) hv (bn_f rfl ⟨rfl, hJ⟩)))))
    refine ⟨fun _ => bad, fun q => ⟨fun q2 => absurd ?_ hv, fun _ => bad⟩⟩
    rw [inn_iff (by omega)]
    rw [i_lt] at q
    rw [i_le] at q2
    have z0 : (0 : Int32).toInt = 0 := rfl
    have z2 : (2 : Int32).toInt = 2 := rfl
    omega
  obtain ⟨v, hv, rfl⟩ := hv
  refine br_f (nI_pos (by omega)) (br_t (by exact nI_le (b := 2) (by omega) (by decide)) (s_remember hJ (fun τr hr => ?_)))
  have w3 : wishOf (q_l τ 13 k) (q_l τ 14 k) d ≠ 3 := by
    have e : wishOf (q_l τ 13 k) (q_l τ 14 k) d = q_i τ 67 (4504 + 40 * k + d) := hJ.2.1.2 k d (by rw [k3]; exact hk) (by omega)
    rw [e]
    rcases hJ.1.2.2.2.2.2.2.2.2.2.2.2.2.1 k d (by rw [k3]; exact hk) (by omega) with z | ⟨-, z | z⟩ <;> rw [z] <;> decide
  refine s_exchangeWish (by omega) (by omega) hv (by rw [hr.gl (x := 13) (by decide), hr.gl (x := 14) (by decide)]; exact w3) ?_
  obtain ⟨τ1, e1⟩ : ∃ τ1, τ1 = q_sl (q_sl τr 13 k (wO v d (q_l τr 13 k))) 14 k (wN v d (q_l τr 14 k)) := ⟨_, rfl⟩
  rw [← e1, hr.gl (x := 13) (by decide), hr.gl (x := 14) (by decide)]
  have hi : ∀ x, q_i τ1 x = q_i τr x := fun x => by rw [e1]; rfl
  have w1 : WR τr τ1 := ⟨fun x hx => hi x, fun x hx => by rw [e1, q_l_sl, if_neg (by omega), q_l_sl, if_neg (by omega)]⟩
  have ee : ∀ x, 39 ≤ x → q_i τ1 x = q_i τ x := fun x hx => WR.e hr w1 hx
  unfold T_X11_wish
  refine s_X11_isKey_t (n := nk) (by rw [ee 67 (by decide)]; exact k2) (by omega) hk (br_f (by decide) (s_X11_isDoor_t (n := nd) (by rw [ee 67 (by decide)]; exact d2) (by omega) hd (br_f (by decide) (s_inL_t (n := 3) (by decide) (by omega) hv (bn_t (by decide) (s_change (by rw [ee 67 (by decide), ee 68 (by decide)]; exact hJ.hz) ?_))))))
  obtain ⟨τ2, e2⟩ : ∃ τ2, τ2 = q_si (q_wi τ1 68 (q_i τ1 67)) 66 2 1 := ⟨_, rfl⟩
  rw [← e2]
  have z67 : q_i τ2 67 = q_i τ 67 := by rw [e2, ← ee 67 (by decide)]; rfl
  refine ⟨4504 + 40 * k + d, ev_3 4504 40 k d, by omega, fun v13 h13 => ⟨4504 + 40 * k + d, ev_3 4504 40 k d, by omega, fun τ15 h15 => ⟨?_, ?_⟩⟩⟩
  · rw [h13, z67]
    exact hJ.2.1.2 k d (by rw [k3]; exact hk) (by omega)
  · have hW := (W1.refl 67 τ2).set (4504 + 40 * k + d) (nI v)
    rw [← h15, z67] at hW
    have hR := refW_of e2 hW
    rw [ee 66 (by decide)] at hR
    have n1 : ∀ i, i ≠ 4504 + 40 * k + d → upd (q_i τ 67) (4504 + 40 * k + d) (nI v) i = q_i τ 67 i := fun i hi => upd_ne hi
    refine J_mulN hJ hr w1 hR (inv_wish hJ.1 k d v (by rw [k3]; exact hk) (by rw [d3]; exact hd) hv upd_eq n1) ?_ (fun k hk => by rw [n1 k (by omega)]; exact (hJ.hz k hk).1)
    refine corr_wish hJ.1 hJ.2.1 k d v (by rw [k3]; exact hk) (by rw [d3]; exact hd) hv upd_eq n1 (fun x hx => by rw [hi, hr.g hx.1 hx.2]) (fun y hy => ?_) (fun e he => ?_)
    · rw [e1, ← hr.gl (x := 13) (by decide), ← hr.gl (x := 14) (by decide)]
      exact ⟨if_neg hy, if_neg hy⟩
    · rw [← hr.gl (x := 13) (by decide), ← hr.gl (x := 14) (by decide), ← wish_bits hv (by omega) _ _ e he, e1]
      congr 1
      · exact if_pos rfl
      · exact if_pos rfl
/-! ===== the tray ===== -/
theorem cpy_in {α : Type} {f g : Nat → α} {a b n j : Nat} (h : j < n) : va_cpy f g a b n (b + j) = f (a + j) := by
  unfold va_cpy
  rw [if_pos ⟨by omega, by omega⟩]
  congr 1
  omega
theorem cpy_out {α : Type} {f g : Nat → α} {a b n k : Nat} (h : ¬ (b ≤ k ∧ k < b + n)) : va_cpy f g a b n k = g k := by
  unfold va_cpy
  rw [if_neg h]
theorem inv_take {s s2 : Nat → Int32} (h : InvS s) (c0 n : Nat) (hc0 : c0 < N s 8522) (hk : s c0 = 2) (hr : s (100 + c0) = nI n) (hn18 : n ≤ 18) (h28 : s2 8528 = nI n) (h1c : s2 (100 + c0) = -1) (hh : ∀ j, j < 18 → s2 (400 + 18 * c0 + j) = 0) (ht : ∀ j, j < 18 → s2 (8504 + j) = s (400 + 18 * c0 + j)) (hn : ∀ i, i ≠ 8528 ∧ i ≠ 100 + c0 ∧ ¬ (400 + 18 * c0 ≤ i ∧ i < 418 + 18 * c0) ∧ ¬ (8504 ≤ i ∧ i < 8522) → s2 i = s i) : InvS s2 := by
  obtain ⟨h1, h2, h3, h4, h5, h6, h7, h8, h9, h10, h11, h12, h13, h14, h15, h16⟩ := id h
  obtain ⟨b1, b2, b3, b4, b5, b6, b7, b8⟩ := h.bnd
  have hN : ∀ i, i ≠ 8528 ∧ i ≠ 100 + c0 ∧ ¬ (400 + 18 * c0 ≤ i ∧ i < 418 + 18 * c0) ∧ ¬ (8504 ≤ i ∧ i < 8522) → N s2 i = N s i := fun i q => by unfold N; rw [hn i q]
  have e28 : N s2 8528 = n := by unfold N; rw [h28, nI_clamp (by omega)]
  have er : N s (100 + c0) = n := by unfold N; rw [hr, nI_clamp (by omega)]
  have er2 : N s2 (100 + c0) = 0 := by unfold N; rw [h1c]; rfl
  refine ⟨?_, ?_, ?_, ?_, ?_, ?_, ?_, ?_, ?_, ?_, ?_, ?_, ?_, ?_, ?_, ?_⟩
  · rw [hN 8522 (by omega), hn 8522 (by omega)]; exact h1
  · rw [hN 8523 (by omega), hn 8523 (by omega)]; exact h2
  · rw [hN 8524 (by omega), hn 8524 (by omega)]; exact h3
  · rw [hN 8525 (by omega), hn 8525 (by omega)]; exact h4
  · rw [hN 8526 (by omega), hn 8526 (by omega)]; exact h5
  · rw [hN 8527 (by omega), hn 8527 (by omega)]; exact h6
  · exact Or.inr ⟨n, hn18, h28⟩
  · intro c hc
    rw [hN 8522 (by omega)] at hc
    obtain ⟨p1, p2, p3, p4, p5, p6⟩ := h8 c hc
    refine ⟨by rw [hN c (by omega), hn c (by omega)]; exact p1, ?_, ?_, ?_, ?_, ?_⟩
    · by_cases e : c = c0
      · rw [e]; rw [h1c]; exact Or.inl rfl
      · rw [hn (100 + c) (by omega)]; exact p2
    · by_cases e : c = c0
      · rw [e, hn c0 (by omega)]; exact fun _ => hk
      · rw [hn (100 + c) (by omega), hn c (by omega)]; exact p3
    · by_cases e : c = c0
      · rw [e, hn c0 (by omega), hk]; exact fun y => absurd y (by decide)
      · rw [hn (100 + c) (by omega), hn c (by omega)]; exact p4
    · rw [hn (200 + c) (by omega)]; exact p5.imp id (fun ⟨x, ⟨x1, x2⟩, x3⟩ => ⟨x, ⟨by rw [hN 8522 (by omega)]; exact x1, by rw [hn x (by omega)]; exact x2⟩, x3⟩)
    · rw [hn (300 + c) (by omega)]; exact p6.imp id (fun ⟨x, ⟨x1, x2⟩, x3⟩ => ⟨x, ⟨by rw [hN 8522 (by omega)]; exact x1, by rw [hn x (by omega)]; exact x2⟩, x3⟩)
  · intro c j hc hj
    rw [hN 8522 (by omega)] at hc
    by_cases e : c = c0
    · rw [e, show N s2 (400 + 18 * c0 + j) = 0 by unfold N; rw [hh j hj]; rfl, hh j hj]
      exact ⟨rfl, by decide, Nat.le_trans (by decide : popc 10 0 ≤ 0) (Nat.zero_le _), fun _ => rfl⟩
    · rw [hN (400 + 18 * c + j) (by omega), hn (400 + 18 * c + j) (by omega), hN c (by omega), hN (100 + c) (by omega)]
      exact h9 c j hc hj
  · intro q j hj
    have g := h9 c0 j hc0 hj
    have e1 : N s2 (8504 + j) = N s (400 + 18 * c0 + j) := by unfold N; rw [ht j hj]
    have e2 : N s c0 = 2 := by unfold N; rw [hk]; rfl
    rw [e1, ht j hj, e28]
    rw [er, e2] at g
    exact g
  · intro k hk
    rw [hN 8523 (by omega)] at hk
    rw [hN (2200 + k) (by omega), hn (2200 + k) (by omega), hn (4100 + k) (by omega), hN 8526 (by omega)]
    exact h11 k hk
  · intro k i2 hk hi2
    rw [hN 8523 (by omega)] at hk
    rw [hN (2200 + k) (by omega)] at hi2
    have hl := (h11 k hk).1.2
    rw [hN (2300 + 18 * k + i2) (by omega), hn (2300 + 18 * k + i2) (by omega)]
    exact h12 k i2 hk hi2
  · intro k d hk hd
    rw [hN 8523 (by omega)] at hk
    rw [hN 8525 (by omega), hn (4504 + 40 * k + d) (by omega)]
    exact h13 k d hk hd
  · intro c hc
    rw [hN 8524 (by omega)] at hc
    rw [hN (4200 + c) (by omega), hn (4200 + c) (by omega), hN (4212 + c) (by omega), hn (4212 + c) (by omega)]
    exact h14 c hc
  · intro c p hc hp
    rw [hN 8524 (by omega)] at hc
    rw [hN (4212 + c) (by omega)] at hp
    have hl := (h14 c hc).2.2
    rw [hn (4224 + 20 * c + p) (by omega), hN 8522 (by omega)]
    exact h15 c p hc hp
  · intro d hd
    rw [hN 8525 (by omega)] at hd
    rw [hn (4464 + d) (by omega), hN 8522 (by omega)]
    exact h16 d hd
theorem corr_take {τ τ1 : kT} {s s2 : Nat → Int32} (hI : InvS s) (hC : Corr τ 1 s) (c0 n : Nat) (hc0 : c0 < N s 8522) (hk : s c0 = 2) (hr : s (100 + c0) = nI n) (hn18 : n ≤ 18) (h28 : s2 8528 = nI n) (h1c : s2 (100 + c0) = -1) (hh : ∀ j, j < 18 → s2 (400 + 18 * c0 + j) = 0) (ht : ∀ j, j < 18 → s2 (8504 + j) = s (400 + 18 * c0 + j)) (x25 : q_i τ1 2 5 = q_i τ 2 5) (x26 : q_i τ1 2 6 = nI n) (x4 : q_i τ1 4 = upd (q_i τ 4) c0 (-1)) (x8 : ∀ j, j < n → q_i τ1 8 j = q_i τ 5 (c0 * 18 + j)) (hn : ∀ i, i ≠ 8528 ∧ i ≠ 100 + c0 ∧ ¬ (400 + 18 * c0 ≤ i ∧ i < 418 + 18 * c0) ∧ ¬ (8504 ≤ i ∧ i < 8522) → s2 i = s i) (hx : ∀ x, x = 1 ∨ x = 3 ∨ x = 5 ∨ x = 6 ∨ x = 7 ∨ (9 ≤ x ∧ x < 20) → q_i τ1 x = q_i τ x) (hl : ∀ (k d : Nat), wishOf (q_l τ1 (1 + 12) k) (q_l τ1 (1 + 13) k) d = wishOf (q_l τ (1 + 12) k) (q_l τ (1 + 13) k) d) : Corr τ1 1 s2 := by
  obtain ⟨b1, b2, b3, b4, b5, b6, b7, b8⟩ := hI.bnd
  have hN : ∀ i, i ≠ 8528 ∧ i ≠ 100 + c0 ∧ ¬ (400 + 18 * c0 ≤ i ∧ i < 418 + 18 * c0) ∧ ¬ (8504 ≤ i ∧ i < 8522) → N s2 i = N s i := fun i q => by unfold N; rw [hn i q]
  have e28 : N s2 8528 = n := by unfold N; rw [h28, nI_clamp (by omega)]
  have er : N s (100 + c0) = n := by unfold N; rw [hr, nI_clamp (by omega)]
  have er2 : N s2 (100 + c0) = 0 := by unfold N; rw [h1c]; rfl
  refine ⟨?_, fun k d hk hd => ?_⟩
  · rintro ⟨t, c, j⟩ h
    match t, h with
    | 0, h =>
      obtain ⟨hc7, rfl⟩ := h
      match c, hc7 with
      | 0, _ =>
        show q_i τ1 1 4 = s2 8525
        rw [hx 1 (by omega), hn 8525 (by omega)]
        exact hC.1 (0, 0, 0) ⟨by decide, rfl⟩
      | 1, _ =>
        show q_i τ1 1 5 = s2 8526
        rw [hx 1 (by omega), hn 8526 (by omega)]
        exact hC.1 (0, 1, 0) ⟨by decide, rfl⟩
      | 2, _ =>
        show q_i τ1 1 6 = s2 8527
        rw [hx 1 (by omega), hn 8527 (by omega)]
        exact hC.1 (0, 2, 0) ⟨by decide, rfl⟩
      | 3, _ =>
        show q_i τ1 2 5 = s2 8522
        rw [x25, hn 8522 (by omega)]
        exact hC.1 (0, 3, 0) ⟨by decide, rfl⟩
      | 4, _ =>
        show q_i τ1 2 6 = s2 8528
        rw [x26]; exact h28.symm
      | 5, _ =>
        show q_i τ1 9 5 = s2 8523
        rw [hx 9 (by omega), hn 8523 (by omega)]
        exact hC.1 (0, 5, 0) ⟨by decide, rfl⟩
      | 6, _ =>
        show q_i τ1 15 3 = s2 8524
        rw [hx 15 (by omega), hn 8524 (by omega)]
        exact hC.1 (0, 6, 0) ⟨by decide, rfl⟩
    | 1, h =>
      have h : c < N s2 8522 ∧ j = 0 := h
      rw [hN 8522 (by omega)] at h
      obtain ⟨g1, rfl⟩ := h
      show q_i τ1 3 c = s2 (c)
      rw [hx 3 (by omega), hn (c) (by omega)]
      exact hC.1 (1, c, 0) ⟨g1, rfl⟩
    | 2, h =>
      have h : c < N s2 8522 ∧ j = 0 := h
      rw [hN 8522 (by omega)] at h
      obtain ⟨g1, rfl⟩ := h
      show q_i τ1 4 c = s2 (100 + c)
      rw [x4, upd_at]
      by_cases e : c = c0
      · rw [if_pos e, e]; exact h1c.symm
      · rw [if_neg e, hn (100 + c) (by omega)]
        exact hC.1 (2, c, 0) ⟨g1, rfl⟩
    | 3, h =>
      have h : c < N s2 8522 ∧ j = 0 := h
      rw [hN 8522 (by omega)] at h
      obtain ⟨g1, rfl⟩ := h
      show q_i τ1 6 c = s2 (200 + c)
      rw [hx 6 (by omega), hn (200 + c) (by omega)]
      exact hC.1 (3, c, 0) ⟨g1, rfl⟩
    | 4, h =>
      have h : c < N s2 8522 ∧ j = 0 := h
      rw [hN 8522 (by omega)] at h
      obtain ⟨g1, rfl⟩ := h
      show q_i τ1 7 c = s2 (300 + c)
      rw [hx 7 (by omega), hn (300 + c) (by omega)]
      exact hC.1 (4, c, 0) ⟨g1, rfl⟩
    | 5, h =>
      have h : c < N s2 8522 ∧ j < N s2 (100 + c) := h
      rw [hN 8522 (by omega)] at h
      obtain ⟨g1, g2⟩ := h
      by_cases e : c = c0
      · rw [e, er2] at g2; omega
      · rw [hN (100 + c) (by omega)] at g2
        have g3 := b6 c g1
        show q_i τ1 5 (c * 18 + j) = s2 (400 + 18 * c + j)
        rw [hx 5 (by omega), hn (400 + 18 * c + j) (by omega)]
        exact hC.1 (5, c, j) ⟨g1, g2⟩
    | 6, h =>
      have h : c = 0 ∧ j < N s2 8528 := h
      rw [e28] at h
      obtain ⟨rfl, g2⟩ := h
      show q_i τ1 8 j = s2 (8504 + j)
      rw [x8 j g2, ht j (by omega)]
      exact hC.1 (5, c0, j) ⟨hc0, by show j < N s (100 + c0); omega⟩
    | 7, h =>
      have h : c < N s2 8523 ∧ j = 0 := h
      rw [hN 8523 (by omega)] at h
      obtain ⟨g1, rfl⟩ := h
      show q_i τ1 10 c = s2 (2200 + c)
      rw [hx 10 (by omega), hn (2200 + c) (by omega)]
      exact hC.1 (7, c, 0) ⟨g1, rfl⟩
    | 8, h =>
      have h : c < N s2 8523 ∧ j = 0 := h
      rw [hN 8523 (by omega)] at h
      obtain ⟨g1, rfl⟩ := h
      show q_i τ1 12 c = s2 (4100 + c)
      rw [hx 12 (by omega), hn (4100 + c) (by omega)]
      exact hC.1 (8, c, 0) ⟨g1, rfl⟩
    | 9, h =>
      have h : c < N s2 8523 ∧ j < N s2 (2200 + c) := h
      rw [hN 8523 (by omega)] at h
      obtain ⟨g1, g2⟩ := h
      rw [hN (2200 + c) (by omega)] at g2
      have g3 := b7 c g1
      show q_i τ1 11 (c * 18 + j) = s2 (2300 + 18 * c + j)
      rw [hx 11 (by omega), hn (2300 + 18 * c + j) (by omega)]
      exact hC.1 (9, c, j) ⟨g1, g2⟩
    | 10, h =>
      have h : c < N s2 8524 ∧ j = 0 := h
      rw [hN 8524 (by omega)] at h
      obtain ⟨g1, rfl⟩ := h
      show q_i τ1 16 c = s2 (4200 + c)
      rw [hx 16 (by omega), hn (4200 + c) (by omega)]
      exact hC.1 (10, c, 0) ⟨g1, rfl⟩
    | 11, h =>
      have h : c < N s2 8524 ∧ j = 0 := h
      rw [hN 8524 (by omega)] at h
      obtain ⟨g1, rfl⟩ := h
      show q_i τ1 17 c = s2 (4212 + c)
      rw [hx 17 (by omega), hn (4212 + c) (by omega)]
      exact hC.1 (11, c, 0) ⟨g1, rfl⟩
    | 12, h =>
      have h : c < N s2 8524 ∧ j < N s2 (4212 + c) := h
      rw [hN 8524 (by omega)] at h
      obtain ⟨g1, g2⟩ := h
      rw [hN (4212 + c) (by omega)] at g2
      have g3 := b8 c g1
      show q_i τ1 18 (c * 20 + j) = s2 (4224 + 20 * c + j)
      rw [hx 18 (by omega), hn (4224 + 20 * c + j) (by omega)]
      exact hC.1 (12, c, j) ⟨g1, g2⟩
    | 13, h =>
      have h : c < N s2 8525 ∧ j = 0 := h
      rw [hN 8525 (by omega)] at h
      obtain ⟨g1, rfl⟩ := h
      show q_i τ1 19 c = s2 (4464 + c)
      rw [hx 19 (by omega), hn (4464 + c) (by omega)]
      exact hC.1 (13, c, 0) ⟨g1, rfl⟩
    | t + 14, h => exact h.elim
  · rw [hN 8523 (by omega)] at hk
    rw [hl k d, hn (4504 + 40 * k + d) (by omega)]
    exact hC.2 k d hk hd
theorem inv_putc {s s2 : Nat → Int32} (h : InvS s) (c0 n : Nat) (hc0 : c0 < N s 8522) (hk : s c0 = 2) (hr : s 8528 = nI n) (hn18 : n ≤ 18) (h28 : s2 8528 = -1) (h1c : s2 (100 + c0) = nI n) (hh : ∀ j, j < 18 → s2 (400 + 18 * c0 + j) = s (8504 + j)) (hn : ∀ i, i ≠ 8528 ∧ i ≠ 100 + c0 ∧ ¬ (400 + 18 * c0 ≤ i ∧ i < 418 + 18 * c0) → s2 i = s i) : InvS s2 := by
  obtain ⟨h1, h2, h3, h4, h5, h6, h7, h8, h9, h10, h11, h12, h13, h14, h15, h16⟩ := id h
  obtain ⟨b1, b2, b3, b4, b5, b6, b7, b8⟩ := h.bnd
  have hN : ∀ i, i ≠ 8528 ∧ i ≠ 100 + c0 ∧ ¬ (400 + 18 * c0 ≤ i ∧ i < 418 + 18 * c0) → N s2 i = N s i := fun i q => by unfold N; rw [hn i q]
  have e28 : N s2 8528 = 0 := by unfold N; rw [h28]; rfl
  have er : N s 8528 = n := by unfold N; rw [hr, nI_clamp (by omega)]
  have er2 : N s2 (100 + c0) = n := by unfold N; rw [h1c, nI_clamp (by omega)]
  refine ⟨?_, ?_, ?_, ?_, ?_, ?_, ?_, ?_, ?_, ?_, ?_, ?_, ?_, ?_, ?_, ?_⟩
  · rw [hN 8522 (by omega), hn 8522 (by omega)]; exact h1
  · rw [hN 8523 (by omega), hn 8523 (by omega)]; exact h2
  · rw [hN 8524 (by omega), hn 8524 (by omega)]; exact h3
  · rw [hN 8525 (by omega), hn 8525 (by omega)]; exact h4
  · rw [hN 8526 (by omega), hn 8526 (by omega)]; exact h5
  · rw [hN 8527 (by omega), hn 8527 (by omega)]; exact h6
  · exact Or.inl h28
  · intro c hc
    rw [hN 8522 (by omega)] at hc
    obtain ⟨p1, p2, p3, p4, p5, p6⟩ := h8 c hc
    refine ⟨by rw [hN c (by omega), hn c (by omega)]; exact p1, ?_, ?_, ?_, ?_, ?_⟩
    · by_cases e : c = c0
      · rw [e]; rw [h1c]; exact Or.inr ⟨n, hn18, rfl⟩
      · rw [hn (100 + c) (by omega)]; exact p2
    · by_cases e : c = c0
      · rw [e, hn c0 (by omega)]; exact fun _ => hk
      · rw [hn (100 + c) (by omega), hn c (by omega)]; exact p3
    · by_cases e : c = c0
      · rw [e, hn c0 (by omega), hk]; exact fun y => absurd y (by decide)
      · rw [hn (100 + c) (by omega), hn c (by omega)]; exact p4
    · rw [hn (200 + c) (by omega)]; exact p5.imp id (fun ⟨x, ⟨x1, x2⟩, x3⟩ => ⟨x, ⟨by rw [hN 8522 (by omega)]; exact x1, by rw [hn x (by omega)]; exact x2⟩, x3⟩)
    · rw [hn (300 + c) (by omega)]; exact p6.imp id (fun ⟨x, ⟨x1, x2⟩, x3⟩ => ⟨x, ⟨by rw [hN 8522 (by omega)]; exact x1, by rw [hn x (by omega)]; exact x2⟩, x3⟩)
  · intro c j hc hj
    rw [hN 8522 (by omega)] at hc
    by_cases e : c = c0
    · have g := h10 (by rw [hr]; exact nI_m1 (by omega)) j hj
      have e1 : N s2 (400 + 18 * c0 + j) = N s (8504 + j) := by unfold N; rw [hh j hj]
      have e2 : N s2 c0 = 2 := by unfold N; rw [hn c0 (by omega), hk]; rfl
      rw [e, e1, hh j hj, e2, er2]
      rw [er] at g
      exact g
    · rw [hN (400 + 18 * c + j) (by omega), hn (400 + 18 * c + j) (by omega), hN c (by omega), hN (100 + c) (by omega)]
      exact h9 c j hc hj
  · intro q j hj
    exact absurd h28 q
  · intro k hk
    rw [hN 8523 (by omega)] at hk
    rw [hN (2200 + k) (by omega), hn (2200 + k) (by omega), hn (4100 + k) (by omega), hN 8526 (by omega)]
    exact h11 k hk
  · intro k i2 hk hi2
    rw [hN 8523 (by omega)] at hk
    rw [hN (2200 + k) (by omega)] at hi2
    have hl := (h11 k hk).1.2
    rw [hN (2300 + 18 * k + i2) (by omega), hn (2300 + 18 * k + i2) (by omega)]
    exact h12 k i2 hk hi2
  · intro k d hk hd
    rw [hN 8523 (by omega)] at hk
    rw [hN 8525 (by omega), hn (4504 + 40 * k + d) (by omega)]
    exact h13 k d hk hd
  · intro c hc
    rw [hN 8524 (by omega)] at hc
    rw [hN (4200 + c) (by omega), hn (4200 + c) (by omega), hN (4212 + c) (by omega), hn (4212 + c) (by omega)]
    exact h14 c hc
  · intro c p hc hp
    rw [hN 8524 (by omega)] at hc
    rw [hN (4212 + c) (by omega)] at hp
    have hl := (h14 c hc).2.2
    rw [hn (4224 + 20 * c + p) (by omega), hN 8522 (by omega)]
    exact h15 c p hc hp
  · intro d hd
    rw [hN 8525 (by omega)] at hd
    rw [hn (4464 + d) (by omega), hN 8522 (by omega)]
    exact h16 d hd
theorem corr_putc {τ τ1 : kT} {s s2 : Nat → Int32} (hI : InvS s) (hC : Corr τ 1 s) (c0 n : Nat) (hc0 : c0 < N s 8522) (hk : s c0 = 2) (hr : s 8528 = nI n) (hn18 : n ≤ 18) (h28 : s2 8528 = -1) (h1c : s2 (100 + c0) = nI n) (hh : ∀ j, j < 18 → s2 (400 + 18 * c0 + j) = s (8504 + j)) (x25 : q_i τ1 2 5 = q_i τ 2 5) (x26 : q_i τ1 2 6 = -1) (x4 : q_i τ1 4 = upd (q_i τ 4) c0 (nI n)) (x5 : q_i τ1 5 = va_cpy (q_i τ 8) (q_i τ 5) 0 (c0 * 18) n) (hn : ∀ i, i ≠ 8528 ∧ i ≠ 100 + c0 ∧ ¬ (400 + 18 * c0 ≤ i ∧ i < 418 + 18 * c0) → s2 i = s i) (hx : ∀ x, x = 1 ∨ x = 3 ∨ x = 6 ∨ x = 7 ∨ x = 8 ∨ (9 ≤ x ∧ x < 20) → q_i τ1 x = q_i τ x) (hl : ∀ (k d : Nat), wishOf (q_l τ1 (1 + 12) k) (q_l τ1 (1 + 13) k) d = wishOf (q_l τ (1 + 12) k) (q_l τ (1 + 13) k) d) : Corr τ1 1 s2 := by
  obtain ⟨b1, b2, b3, b4, b5, b6, b7, b8⟩ := hI.bnd
  have hN : ∀ i, i ≠ 8528 ∧ i ≠ 100 + c0 ∧ ¬ (400 + 18 * c0 ≤ i ∧ i < 418 + 18 * c0) → N s2 i = N s i := fun i q => by unfold N; rw [hn i q]
  have e28 : N s2 8528 = 0 := by unfold N; rw [h28]; rfl
  have er : N s 8528 = n := by unfold N; rw [hr, nI_clamp (by omega)]
  have er2 : N s2 (100 + c0) = n := by unfold N; rw [h1c, nI_clamp (by omega)]
  refine ⟨?_, fun k d hk hd => ?_⟩
  · rintro ⟨t, c, j⟩ h
    match t, h with
    | 0, h =>
      obtain ⟨hc7, rfl⟩ := h
      match c, hc7 with
      | 0, _ =>
        show q_i τ1 1 4 = s2 8525
        rw [hx 1 (by omega), hn 8525 (by omega)]
        exact hC.1 (0, 0, 0) ⟨by decide, rfl⟩
      | 1, _ =>
        show q_i τ1 1 5 = s2 8526
        rw [hx 1 (by omega), hn 8526 (by omega)]
        exact hC.1 (0, 1, 0) ⟨by decide, rfl⟩
      | 2, _ =>
        show q_i τ1 1 6 = s2 8527
        rw [hx 1 (by omega), hn 8527 (by omega)]
        exact hC.1 (0, 2, 0) ⟨by decide, rfl⟩
      | 3, _ =>
        show q_i τ1 2 5 = s2 8522
        rw [x25, hn 8522 (by omega)]
        exact hC.1 (0, 3, 0) ⟨by decide, rfl⟩
      | 4, _ =>
        show q_i τ1 2 6 = s2 8528
        rw [x26]; exact h28.symm
      | 5, _ =>
        show q_i τ1 9 5 = s2 8523
        rw [hx 9 (by omega), hn 8523 (by omega)]
        exact hC.1 (0, 5, 0) ⟨by decide, rfl⟩
      | 6, _ =>
        show q_i τ1 15 3 = s2 8524
        rw [hx 15 (by omega), hn 8524 (by omega)]
        exact hC.1 (0, 6, 0) ⟨by decide, rfl⟩
    | 1, h =>
      have h : c < N s2 8522 ∧ j = 0 := h
      rw [hN 8522 (by omega)] at h
      obtain ⟨g1, rfl⟩ := h
      show q_i τ1 3 c = s2 (c)
      rw [hx 3 (by omega), hn (c) (by omega)]
      exact hC.1 (1, c, 0) ⟨g1, rfl⟩
    | 2, h =>
      have h : c < N s2 8522 ∧ j = 0 := h
      rw [hN 8522 (by omega)] at h
      obtain ⟨g1, rfl⟩ := h
      show q_i τ1 4 c = s2 (100 + c)
      rw [x4, upd_at]
      by_cases e : c = c0
      · rw [if_pos e, e]; exact h1c.symm
      · rw [if_neg e, hn (100 + c) (by omega)]
        exact hC.1 (2, c, 0) ⟨g1, rfl⟩
    | 3, h =>
      have h : c < N s2 8522 ∧ j = 0 := h
      rw [hN 8522 (by omega)] at h
      obtain ⟨g1, rfl⟩ := h
      show q_i τ1 6 c = s2 (200 + c)
      rw [hx 6 (by omega), hn (200 + c) (by omega)]
      exact hC.1 (3, c, 0) ⟨g1, rfl⟩
    | 4, h =>
      have h : c < N s2 8522 ∧ j = 0 := h
      rw [hN 8522 (by omega)] at h
      obtain ⟨g1, rfl⟩ := h
      show q_i τ1 7 c = s2 (300 + c)
      rw [hx 7 (by omega), hn (300 + c) (by omega)]
      exact hC.1 (4, c, 0) ⟨g1, rfl⟩
    | 5, h =>
      have h : c < N s2 8522 ∧ j < N s2 (100 + c) := h
      rw [hN 8522 (by omega)] at h
      obtain ⟨g1, g2⟩ := h
      show q_i τ1 5 (c * 18 + j) = s2 (400 + 18 * c + j)
      rw [x5]
      by_cases e : c = c0
      · rw [e] at g2 ⊢
        rw [er2] at g2
        rw [cpy_in g2, hh j (by omega), Nat.zero_add]
        exact hC.1 (6, 0, j) ⟨rfl, by show j < N s 8528; omega⟩
      · rw [hN (100 + c) (by omega)] at g2
        have g3 := b6 c g1
        rw [cpy_out (by omega), hn (400 + 18 * c + j) (by omega)]
        exact hC.1 (5, c, j) ⟨g1, g2⟩
    | 6, h =>
      have h : c = 0 ∧ j < N s2 8528 := h
      rw [e28] at h
      omega
    | 7, h =>
      have h : c < N s2 8523 ∧ j = 0 := h
      rw [hN 8523 (by omega)] at h
      obtain ⟨g1, rfl⟩ := h
      show q_i τ1 10 c = s2 (2200 + c)
      rw [hx 10 (by omega), hn (2200 + c) (by omega)]
      exact hC.1 (7, c, 0) ⟨g1, rfl⟩
    | 8, h =>
      have h : c < N s2 8523 ∧ j = 0 := h
      rw [hN 8523 (by omega)] at h
      obtain ⟨g1, rfl⟩ := h
      show q_i τ1 12 c = s2 (4100 + c)
      rw [hx 12 (by omega), hn (4100 + c) (by omega)]
      exact hC.1 (8, c, 0) ⟨g1, rfl⟩
    | 9, h =>
      have h : c < N s2 8523 ∧ j < N s2 (2200 + c) := h
      rw [hN 8523 (by omega)] at h
      obtain ⟨g1, g2⟩ := h
      rw [hN (2200 + c) (by omega)] at g2
      have g3 := b7 c g1
      show q_i τ1 11 (c * 18 + j) = s2 (2300 + 18 * c + j)
      rw [hx 11 (by omega), hn (2300 + 18 * c + j) (by omega)]
      exact hC.1 (9, c, j) ⟨g1, g2⟩
    | 10, h =>
      have h : c < N s2 8524 ∧ j = 0 := h
      rw [hN 8524 (by omega)] at h
      obtain ⟨g1, rfl⟩ := h
      show q_i τ1 16 c = s2 (4200 + c)
      rw [hx 16 (by omega), hn (4200 + c) (by omega)]
      exact hC.1 (10, c, 0) ⟨g1, rfl⟩
    | 11, h =>
      have h : c < N s2 8524 ∧ j = 0 := h
      rw [hN 8524 (by omega)] at h
      obtain ⟨g1, rfl⟩ := h
      show q_i τ1 17 c = s2 (4212 + c)
      rw [hx 17 (by omega), hn (4212 + c) (by omega)]
      exact hC.1 (11, c, 0) ⟨g1, rfl⟩
    | 12, h =>
      have h : c < N s2 8524 ∧ j < N s2 (4212 + c) := h
      rw [hN 8524 (by omega)] at h
      obtain ⟨g1, g2⟩ := h
      rw [hN (4212 + c) (by omega)] at g2
      have g3 := b8 c g1
      show q_i τ1 18 (c * 20 + j) = s2 (4224 + 20 * c + j)
      rw [hx 18 (by omega), hn (4224 + 20 * c + j) (by omega)]
      exact hC.1 (12, c, j) ⟨g1, g2⟩
    | 13, h =>
      have h : c < N s2 8525 ∧ j = 0 := h
      rw [hN 8525 (by omega)] at h
      obtain ⟨g1, rfl⟩ := h
      show q_i τ1 19 c = s2 (4464 + c)
      rw [hx 19 (by omega), hn (4464 + c) (by omega)]
      exact hC.1 (13, c, 0) ⟨g1, rfl⟩
    | t + 14, h => exact h.elim
  · rw [hN 8523 (by omega)] at hk
    rw [hl k d, hn (4504 + 40 * k + d) (by omega)]
    exact hC.2 k d hk hd
/-! takeCore: the reference's loop -/
def tk (s : Nat → Int32) (c m : Nat) : Nat → Int32 := fun i => if 8504 ≤ i ∧ i < 8504 + m then s (400 + 18 * c + (i - 8504)) else if 400 + 18 * c ≤ i ∧ i < 400 + 18 * c + m then 0 else s i
theorem tk_1 (s : Nat → Int32) (c m : Nat) (hc : c < 100) (hm : m < 18) : upd (upd (tk s c m) (8504 + m) (tk s c m (400 + 18 * c + m))) (400 + 18 * c + m) 0 = tk s c (m + 1) := by
  have e : tk s c m (400 + 18 * c + m) = s (400 + 18 * c + m) := by
    unfold tk
    rw [if_neg (by omega), if_neg (by omega)]
  rw [e]
  funext i
  rw [upd_at, upd_at]
  unfold tk
  by_cases e1 : i = 400 + 18 * c + m
  · rw [if_pos e1, if_neg (by omega), if_pos (by omega)]
  · rw [if_neg e1]
    by_cases e2 : i = 8504 + m
    · rw [if_pos e2, if_pos (by omega), e2, show 8504 + m - 8504 = m by omega]
    · rw [if_neg e2]
      by_cases q : 8504 ≤ i ∧ i < 8504 + m
      · rw [if_pos q, if_pos (by omega)]
      · rw [if_neg q, if_neg (c := 8504 ≤ i ∧ i < 8504 + (m + 1)) (by omega)]
        by_cases q2 : 400 + 18 * c ≤ i ∧ i < 400 + 18 * c + m
        · rw [if_pos q2, if_pos (by omega)]
        · rw [if_neg q2, if_neg (by omega)]
theorem k_takeCore_op : K_takeCore J := by
  intro a τ hJ
  obtain ⟨nc, hnc, c1, c2, c3⟩ := hJ.nc
  unfold T_X10_takeCore T_X10_coreToTray
  by_cases hc : inn a nc
  case neg =>
    refine s_X4_has_f c1 (by omega) hc (bn_f rfl (s_settle_bad (Or.inl rfl) ?_))
    unfold T_X11_takeCore
    exact s_X11_isCylinder_f c2 (by omega) hc (bn_f rfl ⟨rfl, hJ⟩)
  obtain ⟨c, hc, rfl⟩ := hc
  have k1 : q_i τ 3 c = q_i τ 67 c := hJ.2.1.1 (1, c, 0) ⟨by rw [c3]; exact hc, rfl⟩
  have r1 : q_i τ 4 c = q_i τ 67 (100 + c) := hJ.2.1.1 (2, c, 0) ⟨by rw [c3]; exact hc, rfl⟩
  refine s_X4_has_t c1 (by omega) hc (bn_t (by decide) ?_)
  refine s_X4_isCore c1 hnc hc (fun q => bn_t (by decide) ?_) (fun q => bn_f rfl (s_settle_met (f := 3) ⟨by decide, by decide⟩ ?_))
  rotate_left
  · unfold T_X11_takeCore
    exact s_X11_isCylinder_t (n := nc) c2 (by omega) hc (bn_t (by decide) ⟨c, ev_0a c, by omega, br_f (by show ¬ q_i τ 67 c = 2; rw [← k1]; exact q) (s_met ⟨by decide, e_met hJ 3⟩)⟩)
  have q67 : q_i τ 67 c = 2 := by rw [← k1]; exact q
  obtain ⟨-, z18, -, -, -, -⟩ := hJ.1.2.2.2.2.2.2.2.1 c (by rw [c3]; exact hc)
  have ri : ∀ {τ' : kT} {post : Int32 → kT → Prop}, q_i τ' 67 = q_i τ 67 → (q_i τ 67 (100 + c) = -1 → T_X11_met (1 : Int32) τ' post) → (∀ n, n ≤ 18 → q_i τ 67 (100 + c) = nI n → (T_X11_change  τ' (fun τ10 => (∃ m18 : Nat, L_X11_takeCore_55 (nI c) (nI n) (fun v19 τ20 => (∀ τ21 : kT, τ21 = q_si τ20 67 8528 (nI n) → (∃ j22 : Nat, ((100 : Int32) + nI c) = nI j22 ∧ j22 < 8530 ∧ (∀ τ23 : kT, τ23 = q_si τ21 67 j22 (-1 : Int32) → (T_X11_well (nI n) τ23 (fun r24 τ25 => post r24 τ25)))))) post m18 (0 : Int32) τ10)))) → T_X11_takeCore (nI c) τ' post := by
    intro τ' post e h1 h2
    unfold T_X11_takeCore
    refine s_X11_isCylinder_t (n := nc) (by rw [e]; exact c2) (by omega) hc (bn_t (by decide) ⟨c, ev_0a c, by omega, br_t (by rw [e]; exact q67) ⟨100 + c, nI_add 100 c, by omega, fun v7 h7 => ?_⟩⟩)
    rw [e] at h7
    rcases z18 with z | ⟨n, hn, z⟩
    · rw [z] at h7
      subst h7
      exact br_f (by decide) (h1 z)
    · have hn : n ≤ 18 := hn
      rw [z] at h7
      subst h7
      exact br_t (nI_pos' (by omega)) (h2 n hn z)
  rcases id z18 with z | ⟨n, hn, z⟩
  · refine s_X4_isOut_t c1 hnc hc q (by rw [r1]; exact z) (br_f (by decide) (s_settle_met (f := 1) ⟨by decide, by decide⟩ ?_))
    exact ri rfl (fun _ => s_met ⟨by decide, e_met hJ 1⟩) (fun n hn y => absurd (y.symm.trans z) (nI_m1 (by omega)))
  have hn : n ≤ 18 := hn
  have r4 : q_i τ 4 c = nI n := by rw [r1]; exact z
  refine s_X4_isOut_f c1 hnc hc (by rw [r4]; exact nI_m1 (by omega)) (br_t rfl (s_remember hJ (fun τr hr => ?_)))
  refine ⟨c, rfl, by omega, c * 18, 0, n, by rw [← pk_mul]; rfl, rfl, by rw [hr.g (by decide) (by decide)]; exact r4, by omega, by omega, fun τ5 h5 => ⟨c, rfl, by omega, fun τ7 h7 => ⟨c, rfl, by omega, fun τ9 h9 => ?_⟩⟩⟩
  have e54 : q_i τ5 4 c = nI n := by rw [h5]; show q_i τr 4 c = _; rw [hr.g (by decide) (by decide)]; exact r4
  rw [e54] at h7
  have x26 : q_i τ9 2 6 = nI n := by rw [h9, h7]; rfl
  have x25 : q_i τ9 2 5 = q_i τ 2 5 := by rw [← hr.g (x := 2) (by decide) (by decide), h9, h7, h5]; rfl
  have x4 : q_i τ9 4 = upd (q_i τ 4) c (-1) := by rw [← hr.g (x := 4) (by decide) (by decide), h9, h7, h5]; rfl
  have x8 : ∀ j, j < n → q_i τ9 8 j = q_i τ 5 (c * 18 + j) := fun j hj => by
    rw [← hr.g (x := 5) (by decide) (by decide), h9, h7, h5]
    show va_cpy (q_i τr 5) (q_i τr 8) (c * 18) 0 n j = _
    have := cpy_in (f := q_i τr 5) (g := q_i τr 8) (a := c * 18) (b := 0) hj
    rw [Nat.zero_add] at this
    exact this
  have ax : ∀ x, x ≠ 2 → x ≠ 4 → x ≠ 8 → q_i τ9 x = q_i τr x := fun x n2 n4 n8 => by
    rw [h9, q_i_si, if_neg n4, h7, q_i_si, if_neg n2, h5, q_i_wi, if_neg n8]
  have al : ∀ x, q_l τ9 x = q_l τr x := fun x => by rw [h9, h7, h5]; rfl
  have w1 : WR τr τ9 := ⟨fun x hx => ax x (by omega) (by omega) (by omega), fun x hx => al x⟩
  rw [x26]
  refine s_settle_n (by omega) ?_
  have ee : ∀ x, 39 ≤ x → q_i (q_si τ9 0 4 0) x = q_i τ x := fun x hx => by
    rw [q_i_si, if_neg (by omega)]
    exact WR.e hr w1 hx
  refine ri (ee 67 (by decide)) (fun y => absurd (z.symm.trans y) (nI_m1 (by omega))) (fun n2 hn2 y => ?_)
  obtain rfl : n2 = n := (nI_eq (by omega) (by omega)).mp (y.symm.trans z)
  refine s_change (by rw [ee 67 (by decide), ee 68 (by decide)]; exact hJ.hz) ⟨19, ?_⟩
  obtain ⟨τ2, e2⟩ : ∃ τ2, τ2 = q_si (q_wi (q_si τ9 0 4 0) 68 (q_i (q_si τ9 0 4 0) 67)) 66 2 1 := ⟨_, rfl⟩
  rw [← e2]
  have z67 : q_i τ2 67 = q_i τ 67 := by rw [e2, ← ee 67 (by decide)]; rfl
  have key : ∀ m j τ3, j + m = 18 → W1 67 τ2 τ3 (tk (q_i τ 67) c j) → L_X11_takeCore_55 (nI c) (nI n2) (fun v19 τ20 => (∀ τ21 : kT, τ21 = q_si τ20 67 8528 (nI n2) → (∃ j22 : Nat, ((100 : Int32) + nI c) = nI j22 ∧ j22 < 8530 ∧ (∀ τ23 : kT, τ23 = q_si τ21 67 j22 (-1 : Int32) → (T_X11_well (nI n2) τ23 (fun r24 τ25 => nI n2 = r24 ∧ J τ25)))))) (fun r24 τ25 => nI n2 = r24 ∧ J τ25) (m + 1) (nI j) τ3 := by
    intro m
    induction m with
    | zero =>
      intro j τ3 hj hW
      have hj : j = 18 := by omega
      subst hj
      unfold L_X11_takeCore_55
      refine br_t (by decide) (fun τ21 h21 => ⟨100 + c, nI_add 100 c, by omega, fun τ23 h23 => s_well ⟨rfl, ?_⟩⟩)
      have hW2 := (hW.set 8528 (nI n2)).set (100 + c) (-1)
      rw [← h21, ← h23] at hW2
      have hR := (refW_of e2 hW2).well
      rw [ee 66 (by decide)] at hR
      have n1 : ∀ i, i ≠ 8528 ∧ i ≠ 100 + c ∧ ¬ (400 + 18 * c ≤ i ∧ i < 418 + 18 * c) ∧ ¬ (8504 ≤ i ∧ i < 8522) → upd (upd (tk (q_i τ 67) c 18) 8528 (nI n2)) (100 + c) (-1) i = q_i τ 67 i := fun i hi => by
        rw [upd_ne (by omega), upd_ne (by omega)]
        unfold tk
        rw [if_neg (by omega), if_neg (by omega)]
      have m1 : upd (upd (tk (q_i τ 67) c 18) 8528 (nI n2)) (100 + c) (-1) 8528 = nI n2 := by rw [upd_ne (by omega), upd_eq]
      have m3 : ∀ j, j < 18 → upd (upd (tk (q_i τ 67) c 18) 8528 (nI n2)) (100 + c) (-1) (400 + 18 * c + j) = 0 := fun j hj => by
        rw [upd_ne (by omega), upd_ne (by omega)]
        unfold tk
        rw [if_neg (by omega), if_pos (by omega)]
      have m4 : ∀ j, j < 18 → upd (upd (tk (q_i τ 67) c 18) 8528 (nI n2)) (100 + c) (-1) (8504 + j) = q_i τ 67 (400 + 18 * c + j) := fun j hj => by
        rw [upd_ne (by omega), upd_ne (by omega)]
        unfold tk
        rw [if_pos (by omega), show 8504 + j - 8504 = j by omega]
      refine J_mulW hJ hr w1 hR (inv_take hJ.1 c n2 (by rw [c3]; exact hc) q67 z hn m1 upd_eq m3 m4 n1) ?_ (fun k hk => by rw [n1 k (by omega)]; exact (hJ.hz k hk).1)
      refine corr_take hJ.1 hJ.2.1 c n2 (by rw [c3]; exact hc) q67 z hn m1 upd_eq m3 m4 x25 x26 x4 x8 n1 (fun x hx => ?_) (fun k d => ?_)
      · rw [ax x (by omega) (by omega) (by omega), hr.g (by omega) (by omega)]
      · rw [al, al, hr.gl (by decide), hr.gl (by decide)]
    | succ m ih =>
      intro j τ3 hj hW
      unfold L_X11_takeCore_55
      refine br_f (nI_ge (b := 18) (by omega) (by decide)) ⟨400 + 18 * c + j, ev_3 400 18 c j, by omega, 8504 + j, nI_add 8504 j, by omega, fun τ14 h14 => ⟨400 + 18 * c + j, ev_3 400 18 c j, by omega, fun τ16 h16 v17 h17 => ?_⟩⟩
      rw [h16, h14, h17, show nI j + 1 = nI (j + 1) from nI_1 j, hW.2.2]
      refine ih (j + 1) _ (by omega) ?_
      rw [← tk_1 _ _ _ (by omega) (by omega)]
      exact (hW.set _ _).set _ _
  refine key 18 0 τ2 (by omega) ?_
  have t0 : tk (q_i τ 67) c 0 = q_i τ 67 := by
    funext i
    unfold tk
    rw [if_neg (by omega), if_neg (by omega)]
  rw [t0, ← z67]
  exact W1.refl 67 τ2
theorem k_putCore_op : K_putCore J := by
  intro a τ hJ
  obtain ⟨nc, hnc, c1, c2, c3⟩ := hJ.nc
  unfold T_X10_putCore T_X10_trayToCore
  by_cases hc : inn a nc
  case neg =>
    refine s_X4_has_f c1 (by omega) hc (bn_f rfl (s_settle_bad (Or.inl rfl) ?_))
    unfold T_X11_putCore
    exact s_X11_isCylinder_f c2 (by omega) hc (bn_f rfl ⟨rfl, hJ⟩)
  obtain ⟨c, hc, rfl⟩ := hc
  have k1 : q_i τ 3 c = q_i τ 67 c := hJ.2.1.1 (1, c, 0) ⟨by rw [c3]; exact hc, rfl⟩
  have r1 : q_i τ 4 c = q_i τ 67 (100 + c) := hJ.2.1.1 (2, c, 0) ⟨by rw [c3]; exact hc, rfl⟩
  have t1 : q_i τ 2 6 = q_i τ 67 8528 := hJ.2.1.1 (0, 4, 0) ⟨by decide, rfl⟩
  refine s_X4_has_t c1 (by omega) hc (bn_t (by decide) ?_)
  refine s_X4_isCore c1 hnc hc (fun q => bn_t (by decide) ?_) (fun q => bn_f rfl (s_settle_met (f := 3) ⟨by decide, by decide⟩ ?_))
  rotate_left
  · unfold T_X11_putCore
    exact s_X11_isCylinder_t (n := nc) c2 (by omega) hc (bn_t (by decide) ⟨c, ev_0a c, by omega, br_f (by show ¬ q_i τ 67 c = 2; rw [← k1]; exact q) (s_met ⟨by decide, e_met hJ 3⟩)⟩)
  have q67 : q_i τ 67 c = 2 := by rw [← k1]; exact q
  obtain ⟨-, z18, -, -, -, -⟩ := hJ.1.2.2.2.2.2.2.2.1 c (by rw [c3]; exact hc)
  have z28 := hJ.1.2.2.2.2.2.2.1
  have ri : ∀ {τ' : kT} {post : Int32 → kT → Prop}, q_i τ' 67 = q_i τ 67 → (q_i τ 67 (100 + c) ≠ -1 → post (-3) τ') → (q_i τ 67 (100 + c) = -1 → q_i τ 67 8528 = -1 → T_X11_met (1 : Int32) τ' post) → (q_i τ 67 (100 + c) = -1 → ∀ n, n ≤ 18 → q_i τ 67 8528 = nI n → (T_X11_change  τ' (fun τ11 => (∃ m17 : Nat, L_X11_putCore_69 (nI c) (nI n) (fun v18 τ19 => (∃ j20 : Nat, ((100 : Int32) + nI c) = nI j20 ∧ j20 < 8530 ∧ (∀ τ21 : kT, τ21 = q_si τ19 67 j20 (nI n) → (∀ τ22 : kT, τ22 = q_si τ21 67 8528 (-1 : Int32) → (T_X11_well (nI n) τ22 (fun r23 τ24 => post r23 τ24)))))) post m17 (0 : Int32) τ11)))) → T_X11_putCore (nI c) τ' post := by
    intro τ' post e h3 h1 h2
    unfold T_X11_putCore
    refine s_X11_isCylinder_t (n := nc) (by rw [e]; exact c2) (by omega) hc (bn_t (by decide) ⟨c, ev_0a c, by omega, br_t (by rw [e]; exact q67) ⟨100 + c, nI_add 100 c, by omega, ?_⟩⟩)
    rw [e]
    rcases z18 with z | ⟨n, hn, z⟩
    · refine br_t (by rw [z]; decide) (fun v8 h8 => ?_)
      rcases z28 with y | ⟨m, hm, y⟩
      · rw [y] at h8
        subst h8
        exact br_f (by decide) (h1 z y)
      · have hm : m ≤ 18 := hm
        rw [y] at h8
        subst h8
        exact br_t (nI_pos' (by omega)) (h2 z m hm y)
    · have hn : n ≤ 18 := hn
      exact br_f (by rw [z]; exact nI_pos (by omega)) (h3 (by rw [z]; exact nI_m1 (by omega)))
  by_cases z : q_i τ 67 (100 + c) = -1
  case neg =>
    refine s_X4_isOut_f c1 hnc hc (by rw [r1]; exact z) (bn_f rfl (s_settle_bad (Or.inr (Or.inl rfl)) ?_))
    exact ri rfl (fun _ => ⟨rfl, hJ⟩) (fun y => absurd y z) (fun y => absurd y z)
  refine s_X4_isOut_t c1 hnc hc q (by rw [r1]; exact z) (bn_t (by decide) ?_)
  rw [t1]
  rcases id z28 with y | ⟨n, hn, y⟩
  · refine bn_f y (s_settle_met (f := 1) ⟨by decide, by decide⟩ ?_)
    exact ri rfl (fun w => absurd z w) (fun _ _ => s_met ⟨by decide, e_met hJ 1⟩) (fun _ n hn w => absurd (w.symm.trans y) (nI_m1 (by omega)))
  have hn : n ≤ 18 := hn
  refine bn_t (by rw [y]; exact nI_m1 (by omega)) (s_remember hJ (fun τr hr => ?_))
  have e26 : q_i τr 2 6 = nI n := by rw [hr.g (by decide) (by decide), t1]; exact y
  refine ⟨0, c * 18, n, rfl, by rw [← pk_mul]; rfl, e26, by omega, by omega, fun τ4 h4 => ⟨c, rfl, by omega, fun τ6 h6 τ7 h7 => ⟨c, rfl, by omega, ?_⟩⟩⟩
  have e42 : q_i τ4 2 6 = nI n := by rw [h4]; exact e26
  rw [e42] at h6
  have x26 : q_i τ7 2 6 = -1 := by rw [h7]; rfl
  have x25 : q_i τ7 2 5 = q_i τ 2 5 := by rw [← hr.g (x := 2) (by decide) (by decide), h7, h6, h4]; rfl
  have x4 : q_i τ7 4 = upd (q_i τ 4) c (nI n) := by rw [← hr.g (x := 4) (by decide) (by decide), h7, h6, h4]; rfl
  have x5 : q_i τ7 5 = va_cpy (q_i τ 8) (q_i τ 5) 0 (c * 18) n := by rw [← hr.g (x := 5) (by decide) (by decide), ← hr.g (x := 8) (by decide) (by decide), h7, h6, h4]; rfl
  have ax : ∀ x, x ≠ 2 → x ≠ 4 → x ≠ 5 → q_i τ7 x = q_i τr x := fun x n2 n4 n8 => by
    rw [h7, q_i_si, if_neg n2, h6, q_i_si, if_neg n4, h4, q_i_wi, if_neg n8]
  have al : ∀ x, q_l τ7 x = q_l τr x := fun x => by rw [h7, h6, h4]; rfl
  have w1 : WR τr τ7 := ⟨fun x hx => ax x (by omega) (by omega) (by omega), fun x hx => al x⟩
  rw [x4, upd_eq]
  refine s_settle_n (by omega) ?_
  have ee : ∀ x, 39 ≤ x → q_i (q_si τ7 0 4 0) x = q_i τ x := fun x hx => by
    rw [q_i_si, if_neg (by omega)]
    exact WR.e hr w1 hx
  refine ri (ee 67 (by decide)) (fun w => absurd z w) (fun _ w => absurd (y.symm.trans w) (nI_m1 (by omega))) (fun _ n2 hn2 w => ?_)
  obtain rfl : n2 = n := (nI_eq (by omega) (by omega)).mp (w.symm.trans y)
  refine s_change (by rw [ee 67 (by decide), ee 68 (by decide)]; exact hJ.hz) ⟨19, ?_⟩
  obtain ⟨τ2, e2⟩ : ∃ τ2, τ2 = q_si (q_wi (q_si τ7 0 4 0) 68 (q_i (q_si τ7 0 4 0) 67)) 66 2 1 := ⟨_, rfl⟩
  rw [← e2]
  have z67 : q_i τ2 67 = q_i τ 67 := by rw [e2, ← ee 67 (by decide)]; rfl
  have key : ∀ m j τ3, j + m = 18 → W1 67 τ2 τ3 (patN (q_i τ 67) (400 + 18 * c) (fun j => q_i τ 67 (8504 + j)) j) → L_X11_putCore_69 (nI c) (nI n2) (fun v18 τ19 => (∃ j20 : Nat, ((100 : Int32) + nI c) = nI j20 ∧ j20 < 8530 ∧ (∀ τ21 : kT, τ21 = q_si τ19 67 j20 (nI n2) → (∀ τ22 : kT, τ22 = q_si τ21 67 8528 (-1 : Int32) → (T_X11_well (nI n2) τ22 (fun r23 τ24 => nI n2 = r23 ∧ J τ24)))))) (fun r23 τ24 => nI n2 = r23 ∧ J τ24) (m + 1) (nI j) τ3 := by
    intro m
    induction m with
    | zero =>
      intro j τ3 hj hW
      have hj : j = 18 := by omega
      subst hj
      unfold L_X11_putCore_69
      refine br_t (by decide) ⟨100 + c, nI_add 100 c, by omega, fun τ21 h21 τ22 h22 => s_well ⟨rfl, ?_⟩⟩
      have hW2 := (hW.set (100 + c) (nI n2)).set 8528 (-1)
      rw [← h21, ← h22] at hW2
      have hR := (refW_of e2 hW2).well
      rw [ee 66 (by decide)] at hR
      have n1 : ∀ i, i ≠ 8528 ∧ i ≠ 100 + c ∧ ¬ (400 + 18 * c ≤ i ∧ i < 418 + 18 * c) → upd (upd (patN (q_i τ 67) (400 + 18 * c) (fun j => q_i τ 67 (8504 + j)) 18) (100 + c) (nI n2)) 8528 (-1) i = q_i τ 67 i := fun i hi => by
        rw [upd_ne (by omega), upd_ne (by omega), patN_out (by omega)]
      have m1 : upd (upd (patN (q_i τ 67) (400 + 18 * c) (fun j => q_i τ 67 (8504 + j)) 18) (100 + c) (nI n2)) 8528 (-1) (100 + c) = nI n2 := by rw [upd_ne (by omega), upd_eq]
      have m3 : ∀ j, j < 18 → upd (upd (patN (q_i τ 67) (400 + 18 * c) (fun j => q_i τ 67 (8504 + j)) 18) (100 + c) (nI n2)) 8528 (-1) (400 + 18 * c + j) = q_i τ 67 (8504 + j) := fun j hj => by
        rw [upd_ne (by omega), upd_ne (by omega), patN_in hj]
      refine J_mulW hJ hr w1 hR (inv_putc hJ.1 c n2 (by rw [c3]; exact hc) q67 y hn upd_eq m1 m3 n1) ?_ (fun k hk => by rw [n1 k (by omega)]; exact (hJ.hz k hk).1)
      refine corr_putc hJ.1 hJ.2.1 c n2 (by rw [c3]; exact hc) q67 y hn upd_eq m1 m3 x25 x26 x4 x5 n1 (fun x hx => ?_) (fun k d => ?_)
      · rw [ax x (by omega) (by omega) (by omega), hr.g (by omega) (by omega)]
      · rw [al, al, hr.gl (by decide), hr.gl (by decide)]
    | succ m ih =>
      intro j τ3 hj hW
      unfold L_X11_putCore_69
      refine br_f (nI_ge (b := 18) (by omega) (by decide)) ⟨8504 + j, nI_add 8504 j, by omega, 400 + 18 * c + j, ev_3 400 18 c j, by omega, fun τ14 h14 v17 h17 => ?_⟩
      have rd : q_i τ3 67 (8504 + j) = q_i τ 67 (8504 + j) := by rw [hW.2.2, patN_out (by omega)]
      rw [h14, h17, show nI j + 1 = nI (j + 1) from nI_1 j, rd]
      refine ih (j + 1) _ (by omega) ?_
      have := hW.set (400 + 18 * c + j) (q_i τ 67 (8504 + j))
      rw [patN_1 _ _ (fun j => q_i τ 67 (8504 + j))] at this
      exact this
  refine key 18 0 τ2 (by omega) ?_
  rw [patN_0, ← z67]
  exact W1.refl 67 τ2
