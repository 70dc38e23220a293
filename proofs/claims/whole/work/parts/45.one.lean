theorem inv_person {s : Nat → Int32} (h : InvS s) (m : Nat) (hm : N s 8526 ≤ m ∧ m ≤ 40) : InvS (upd s (8526) (nI m)) := by
  obtain ⟨h1, h2, h3, h4, h5, h6, h7, h8, h9, h10, h11, h12, h13, h14, h15, h16⟩ := id h
  obtain ⟨b1, b2, b3, b4, b5, b6, b7, b8⟩ := h.bnd
  have hn : ∀ j, j ≠ 8526 → upd s (8526) (nI m) j = s j := fun j q => by rw [upd_at, if_neg q]
  have hN : ∀ j, j ≠ 8526 → N (upd s (8526) (nI m)) j = N s j := fun j q => by unfold N; rw [hn j q]
  have hv : upd s (8526) (nI m) (8526) = nI m := by rw [upd_at, if_pos rfl]
  refine ⟨?_, ?_, ?_, ?_, ?_, ?_, ?_, ?_, ?_, ?_, ?_, ?_, ?_, ?_, ?_, ?_⟩
  · rw [hN 8522 (by omega), hn 8522 (by omega)]; exact h1
  · rw [hN 8523 (by omega), hn 8523 (by omega)]; exact h2
  · rw [hN 8524 (by omega), hn 8524 (by omega)]; exact h3
  · rw [hN 8525 (by omega), hn 8525 (by omega)]; exact h4
  · rw [show N (upd s 8526 (nI m)) 8526 = m by unfold N; rw [hv, nI_clamp (by omega)], hv]; exact ⟨rfl, by omega⟩
  · rw [hN 8527 (by omega), hn 8527 (by omega)]; exact h6
  · rw [hn 8528 (by omega)]; exact h7
  · intro c hc
    rw [hN 8522 (by omega)] at hc
    obtain ⟨p1, p2, p3, p4, p5, p6⟩ := h8 c hc
    refine ⟨by rw [hN c (by omega), hn c (by omega)]; exact p1, by rw [hn (100 + c) (by omega)]; exact p2, by rw [hn (100 + c) (by omega), hn c (by omega)]; exact p3, by rw [hn (100 + c) (by omega), hn c (by omega)]; exact p4, ?_, ?_⟩
    · rw [hn (200 + c) (by omega)]; exact p5.imp id (fun ⟨x, ⟨x1, x2⟩, x3⟩ => ⟨x, ⟨by rw [hN 8522 (by omega)]; exact x1, by rw [hn x (by omega)]; exact x2⟩, x3⟩)
    · rw [hn (300 + c) (by omega)]; exact p6.imp id (fun ⟨x, ⟨x1, x2⟩, x3⟩ => ⟨x, ⟨by rw [hN 8522 (by omega)]; exact x1, by rw [hn x (by omega)]; exact x2⟩, x3⟩)
  · intro c j hc hj
    rw [hN 8522 (by omega)] at hc
    rw [hN (400 + 18 * c + j) (by omega), hn (400 + 18 * c + j) (by omega), hN c (by omega), hN (100 + c) (by omega)]
    exact h9 c j hc hj
  · intro q j hj
    rw [hn 8528 (by omega)] at q
    rw [hN (8504 + j) (by omega), hn (8504 + j) (by omega), hN 8528 (by omega)]
    exact h10 q j hj
  · intro k hk
    rw [hN 8523 (by omega)] at hk
    rw [hN (2200 + k) (by omega), hn (2200 + k) (by omega), hn (4100 + k) (by omega), show N (upd s 8526 (nI m)) 8526 = m by unfold N; rw [hv, nI_clamp (by omega)]]
    obtain ⟨p1, p2⟩ := h11 k hk
    exact ⟨p1, p2.imp (fun q => q.imp id (fun ⟨x, x1, x2⟩ => ⟨x, Nat.lt_of_lt_of_le x1 hm.1, x2⟩)) id⟩
  · intro k i2 hk hi2
    rw [hN 8523 (by omega)] at hk
    rw [hN (2200 + k) (by omega)] at hi2
    have hl := (h11 k hk).1.2
    rw [hN (2300 + 18 * k + i2) (by omega), hn (2300 + 18 * k + i2) (by omega)]
    exact h12 k i2 hk hi2
  · intro k d hk hd
    rw [hN 8523 (by omega)] at hk
    rw [hN 8525 (by omega), hn (4504 + 40 * k + d) (by omega)]
    exact h13 k d hk hd
  · intro c hc
    rw [hN 8524 (by omega)] at hc
    rw [hN (4200 + c) (by omega), hn (4200 + c) (by omega), hN (4212 + c) (by omega), hn (4212 + c) (by omega)]
    exact h14 c hc
  · intro c p hc hp
    rw [hN 8524 (by omega)] at hc
    rw [hN (4212 + c) (by omega)] at hp
    have hl := (h14 c hc).2.2
    rw [hn (4224 + 20 * c + p) (by omega), hN 8522 (by omega)]
    exact h15 c p hc hp
  · intro d hd
    rw [hN 8525 (by omega)] at hd
    rw [hn (4464 + d) (by omega), hN 8522 (by omega)]
    exact h16 d hd

theorem inv_blanks {s : Nat → Int32} (h : InvS s) (m : Nat) (hm : m ≤ 1000) : InvS (upd s (8527) (nI m)) := by
  obtain ⟨h1, h2, h3, h4, h5, h6, h7, h8, h9, h10, h11, h12, h13, h14, h15, h16⟩ := id h
  obtain ⟨b1, b2, b3, b4, b5, b6, b7, b8⟩ := h.bnd
  have hn : ∀ j, j ≠ 8527 → upd s (8527) (nI m) j = s j := fun j q => by rw [upd_at, if_neg q]
  have hN : ∀ j, j ≠ 8527 → N (upd s (8527) (nI m)) j = N s j := fun j q => by unfold N; rw [hn j q]
  have hv : upd s (8527) (nI m) (8527) = nI m := by rw [upd_at, if_pos rfl]
  refine ⟨?_, ?_, ?_, ?_, ?_, ?_, ?_, ?_, ?_, ?_, ?_, ?_, ?_, ?_, ?_, ?_⟩
  · rw [hN 8522 (by omega), hn 8522 (by omega)]; exact h1
  · rw [hN 8523 (by omega), hn 8523 (by omega)]; exact h2
  · rw [hN 8524 (by omega), hn 8524 (by omega)]; exact h3
  · rw [hN 8525 (by omega), hn 8525 (by omega)]; exact h4
  · rw [hN 8526 (by omega), hn 8526 (by omega)]; exact h5
  · rw [show N (upd s 8527 (nI m)) 8527 = m by unfold N; rw [hv, nI_clamp (by omega)], hv]; exact ⟨rfl, by omega⟩
  · rw [hn 8528 (by omega)]; exact h7
  · intro c hc
    rw [hN 8522 (by omega)] at hc
    obtain ⟨p1, p2, p3, p4, p5, p6⟩ := h8 c hc
    refine ⟨by rw [hN c (by omega), hn c (by omega)]; exact p1, by rw [hn (100 + c) (by omega)]; exact p2, by rw [hn (100 + c) (by omega), hn c (by omega)]; exact p3, by rw [hn (100 + c) (by omega), hn c (by omega)]; exact p4, ?_, ?_⟩
    · rw [hn (200 + c) (by omega)]; exact p5.imp id (fun ⟨x, ⟨x1, x2⟩, x3⟩ => ⟨x, ⟨by rw [hN 8522 (by omega)]; exact x1, by rw [hn x (by omega)]; exact x2⟩, x3⟩)
    · rw [hn (300 + c) (by omega)]; exact p6.imp id (fun ⟨x, ⟨x1, x2⟩, x3⟩ => ⟨x, ⟨by rw [hN 8522 (by omega)]; exact x1, by rw [hn x (by omega)]; exact x2⟩, x3⟩)
  · intro c j hc hj
    rw [hN 8522 (by omega)] at hc
    rw [hN (400 + 18 * c + j) (by omega), hn (400 + 18 * c + j) (by omega), hN c (by omega), hN (100 + c) (by omega)]
    exact h9 c j hc hj
  · intro q j hj
    rw [hn 8528 (by omega)] at q
    rw [hN (8504 + j) (by omega), hn (8504 + j) (by omega), hN 8528 (by omega)]
    exact h10 q j hj
  · intro k hk
    rw [hN 8523 (by omega)] at hk
    rw [hN (2200 + k) (by omega), hn (2200 + k) (by omega), hn (4100 + k) (by omega), hN 8526 (by omega)]
    exact h11 k hk
  · intro k i2 hk hi2
    rw [hN 8523 (by omega)] at hk
    rw [hN (2200 + k) (by omega)] at hi2
    have hl := (h11 k hk).1.2
    rw [hN (2300 + 18 * k + i2) (by omega), hn (2300 + 18 * k + i2) (by omega)]
    exact h12 k i2 hk hi2
  · intro k d hk hd
    rw [hN 8523 (by omega)] at hk
    rw [hN 8525 (by omega), hn (4504 + 40 * k + d) (by omega)]
    exact h13 k d hk hd
  · intro c hc
    rw [hN 8524 (by omega)] at hc
    rw [hN (4200 + c) (by omega), hn (4200 + c) (by omega), hN (4212 + c) (by omega), hn (4212 + c) (by omega)]
    exact h14 c hc
  · intro c p hc hp
    rw [hN 8524 (by omega)] at hc
    rw [hN (4212 + c) (by omega)] at hp
    have hl := (h14 c hc).2.2
    rw [hn (4224 + 20 * c + p) (by omega), hN 8522 (by omega)]
    exact h15 c p hc hp
  · intro d hd
    rw [hN 8525 (by omega)] at hd
    rw [hn (4464 + d) (by omega), hN 8522 (by omega)]
    exact h16 d hd

theorem inv_fit {s : Nat → Int32} (h : InvS s) (d : Nat) (v : Int32) (hd : d < N s 8525) (hv0 : z_or v (· < N s 8522)) : InvS (upd s (4464 + d) (v)) := by
  obtain ⟨h1, h2, h3, h4, h5, h6, h7, h8, h9, h10, h11, h12, h13, h14, h15, h16⟩ := id h
  obtain ⟨b1, b2, b3, b4, b5, b6, b7, b8⟩ := h.bnd
  have hn : ∀ j, j ≠ 4464 + d → upd s (4464 + d) (v) j = s j := fun j q => by rw [upd_at, if_neg q]
  have hN : ∀ j, j ≠ 4464 + d → N (upd s (4464 + d) (v)) j = N s j := fun j q => by unfold N; rw [hn j q]
  have hv : upd s (4464 + d) (v) (4464 + d) = v := by rw [upd_at, if_pos rfl]
  refine ⟨?_, ?_, ?_, ?_, ?_, ?_, ?_, ?_, ?_, ?_, ?_, ?_, ?_, ?_, ?_, ?_⟩
  · rw [hN 8522 (by omega), hn 8522 (by omega)]; exact h1
  · rw [hN 8523 (by omega), hn 8523 (by omega)]; exact h2
  · rw [hN 8524 (by omega), hn 8524 (by omega)]; exact h3
  · rw [hN 8525 (by omega), hn 8525 (by omega)]; exact h4
  · rw [hN 8526 (by omega), hn 8526 (by omega)]; exact h5
  · rw [hN 8527 (by omega), hn 8527 (by omega)]; exact h6
  · rw [hn 8528 (by omega)]; exact h7
  · intro c hc
    rw [hN 8522 (by omega)] at hc
    obtain ⟨p1, p2, p3, p4, p5, p6⟩ := h8 c hc
    refine ⟨by rw [hN c (by omega), hn c (by omega)]; exact p1, by rw [hn (100 + c) (by omega)]; exact p2, by rw [hn (100 + c) (by omega), hn c (by omega)]; exact p3, by rw [hn (100 + c) (by omega), hn c (by omega)]; exact p4, ?_, ?_⟩
    · rw [hn (200 + c) (by omega)]; exact p5.imp id (fun ⟨x, ⟨x1, x2⟩, x3⟩ => ⟨x, ⟨by rw [hN 8522 (by omega)]; exact x1, by rw [hn x (by omega)]; exact x2⟩, x3⟩)
    · rw [hn (300 + c) (by omega)]; exact p6.imp id (fun ⟨x, ⟨x1, x2⟩, x3⟩ => ⟨x, ⟨by rw [hN 8522 (by omega)]; exact x1, by rw [hn x (by omega)]; exact x2⟩, x3⟩)
  · intro c j hc hj
    rw [hN 8522 (by omega)] at hc
    rw [hN (400 + 18 * c + j) (by omega), hn (400 + 18 * c + j) (by omega), hN c (by omega), hN (100 + c) (by omega)]
    exact h9 c j hc hj
  · intro q j hj
    rw [hn 8528 (by omega)] at q
    rw [hN (8504 + j) (by omega), hn (8504 + j) (by omega), hN 8528 (by omega)]
    exact h10 q j hj
  · intro k hk
    rw [hN 8523 (by omega)] at hk
    rw [hN (2200 + k) (by omega), hn (2200 + k) (by omega), hn (4100 + k) (by omega), hN 8526 (by omega)]
    exact h11 k hk
  · intro k i2 hk hi2
    rw [hN 8523 (by omega)] at hk
    rw [hN (2200 + k) (by omega)] at hi2
    have hl := (h11 k hk).1.2
    rw [hN (2300 + 18 * k + i2) (by omega), hn (2300 + 18 * k + i2) (by omega)]
    exact h12 k i2 hk hi2
  · intro k d hk hd
    rw [hN 8523 (by omega)] at hk
    rw [hN 8525 (by omega), hn (4504 + 40 * k + d) (by omega)]
    exact h13 k d hk hd
  · intro c hc
    rw [hN 8524 (by omega)] at hc
    rw [hN (4200 + c) (by omega), hn (4200 + c) (by omega), hN (4212 + c) (by omega), hn (4212 + c) (by omega)]
    exact h14 c hc
  · intro c p hc hp
    rw [hN 8524 (by omega)] at hc
    rw [hN (4212 + c) (by omega)] at hp
    have hl := (h14 c hc).2.2
    rw [hn (4224 + 20 * c + p) (by omega), hN 8522 (by omega)]
    exact h15 c p hc hp
  · intro d2 hd2
    rw [hN 8525 (by omega)] at hd2
    rw [hN 8522 (by omega)]
    by_cases q : d2 = d
    · subst q
      rw [hv]
      exact hv0
    · rw [hn (4464 + d2) (by omega)]
      exact h16 d2 hd2

theorem inv_hold {s : Nat → Int32} (h : InvS s) (k0 : Nat) (v : Int32) (hk0 : k0 < N s 8523) (hv0 : z_or v (· < N s 8526) ∨ v = -6) : InvS (upd s (4100 + k0) (v)) := by
  obtain ⟨h1, h2, h3, h4, h5, h6, h7, h8, h9, h10, h11, h12, h13, h14, h15, h16⟩ := id h
  obtain ⟨b1, b2, b3, b4, b5, b6, b7, b8⟩ := h.bnd
  have hn : ∀ j, j ≠ 4100 + k0 → upd s (4100 + k0) (v) j = s j := fun j q => by rw [upd_at, if_neg q]
  have hN : ∀ j, j ≠ 4100 + k0 → N (upd s (4100 + k0) (v)) j = N s j := fun j q => by unfold N; rw [hn j q]
  have hv : upd s (4100 + k0) (v) (4100 + k0) = v := by rw [upd_at, if_pos rfl]
  refine ⟨?_, ?_, ?_, ?_, ?_, ?_, ?_, ?_, ?_, ?_, ?_, ?_, ?_, ?_, ?_, ?_⟩
  · rw [hN 8522 (by omega), hn 8522 (by omega)]; exact h1
  · rw [hN 8523 (by omega), hn 8523 (by omega)]; exact h2
  · rw [hN 8524 (by omega), hn 8524 (by omega)]; exact h3
  · rw [hN 8525 (by omega), hn 8525 (by omega)]; exact h4
  · rw [hN 8526 (by omega), hn 8526 (by omega)]; exact h5
  · rw [hN 8527 (by omega), hn 8527 (by omega)]; exact h6
  · rw [hn 8528 (by omega)]; exact h7
  · intro c hc
    rw [hN 8522 (by omega)] at hc
    obtain ⟨p1, p2, p3, p4, p5, p6⟩ := h8 c hc
    refine ⟨by rw [hN c (by omega), hn c (by omega)]; exact p1, by rw [hn (100 + c) (by omega)]; exact p2, by rw [hn (100 + c) (by omega), hn c (by omega)]; exact p3, by rw [hn (100 + c) (by omega), hn c (by omega)]; exact p4, ?_, ?_⟩
    · rw [hn (200 + c) (by omega)]; exact p5.imp id (fun ⟨x, ⟨x1, x2⟩, x3⟩ => ⟨x, ⟨by rw [hN 8522 (by omega)]; exact x1, by rw [hn x (by omega)]; exact x2⟩, x3⟩)
    · rw [hn (300 + c) (by omega)]; exact p6.imp id (fun ⟨x, ⟨x1, x2⟩, x3⟩ => ⟨x, ⟨by rw [hN 8522 (by omega)]; exact x1, by rw [hn x (by omega)]; exact x2⟩, x3⟩)
  · intro c j hc hj
    rw [hN 8522 (by omega)] at hc
    rw [hN (400 + 18 * c + j) (by omega), hn (400 + 18 * c + j) (by omega), hN c (by omega), hN (100 + c) (by omega)]
    exact h9 c j hc hj
  · intro q j hj
    rw [hn 8528 (by omega)] at q
    rw [hN (8504 + j) (by omega), hn (8504 + j) (by omega), hN 8528 (by omega)]
    exact h10 q j hj
  · intro k hk
    rw [hN 8523 (by omega)] at hk
    rw [hN (2200 + k) (by omega), hn (2200 + k) (by omega), hN 8526 (by omega)]
    refine ⟨(h11 k hk).1, ?_⟩
    by_cases q : k = k0
    · subst q
      rw [hv]
      exact hv0
    · rw [hn (4100 + k) (by omega)]
      exact (h11 k hk).2
  · intro k i2 hk hi2
    rw [hN 8523 (by omega)] at hk
    rw [hN (2200 + k) (by omega)] at hi2
    have hl := (h11 k hk).1.2
    rw [hN (2300 + 18 * k + i2) (by omega), hn (2300 + 18 * k + i2) (by omega)]
    exact h12 k i2 hk hi2
  · intro k d hk hd
    rw [hN 8523 (by omega)] at hk
    rw [hN 8525 (by omega), hn (4504 + 40 * k + d) (by omega)]
    exact h13 k d hk hd
  · intro c hc
    rw [hN 8524 (by omega)] at hc
    rw [hN (4200 + c) (by omega), hn (4200 + c) (by omega), hN (4212 + c) (by omega), hn (4212 + c) (by omega)]
    exact h14 c hc
  · intro c p hc hp
    rw [hN 8524 (by omega)] at hc
    rw [hN (4212 + c) (by omega)] at hp
    have hl := (h14 c hc).2.2
    rw [hn (4224 + 20 * c + p) (by omega), hN 8522 (by omega)]
    exact h15 c p hc hp
  · intro d hd
    rw [hN 8525 (by omega)] at hd
    rw [hn (4464 + d) (by omega), hN 8522 (by omega)]
    exact h16 d hd

theorem inv_place {s : Nat → Int32} (h : InvS s) (c0 p0 : Nat) (v : Int32) (hc0 : c0 < N s 8524) (hp0 : p0 < N s (4212 + c0)) (hv0 : z_or v (· < N s 8522)) : InvS (upd s (4224 + 20 * c0 + p0) (v)) := by
  obtain ⟨h1, h2, h3, h4, h5, h6, h7, h8, h9, h10, h11, h12, h13, h14, h15, h16⟩ := id h
  obtain ⟨b1, b2, b3, b4, b5, b6, b7, b8⟩ := h.bnd
  have hn : ∀ j, j ≠ 4224 + 20 * c0 + p0 → upd s (4224 + 20 * c0 + p0) (v) j = s j := fun j q => by rw [upd_at, if_neg q]
  have hN : ∀ j, j ≠ 4224 + 20 * c0 + p0 → N (upd s (4224 + 20 * c0 + p0) (v)) j = N s j := fun j q => by unfold N; rw [hn j q]
  have hv : upd s (4224 + 20 * c0 + p0) (v) (4224 + 20 * c0 + p0) = v := by rw [upd_at, if_pos rfl]
  have hl00 := b8 c0 hc0
  refine ⟨?_, ?_, ?_, ?_, ?_, ?_, ?_, ?_, ?_, ?_, ?_, ?_, ?_, ?_, ?_, ?_⟩
  · rw [hN 8522 (by omega), hn 8522 (by omega)]; exact h1
  · rw [hN 8523 (by omega), hn 8523 (by omega)]; exact h2
  · rw [hN 8524 (by omega), hn 8524 (by omega)]; exact h3
  · rw [hN 8525 (by omega), hn 8525 (by omega)]; exact h4
  · rw [hN 8526 (by omega), hn 8526 (by omega)]; exact h5
  · rw [hN 8527 (by omega), hn 8527 (by omega)]; exact h6
  · rw [hn 8528 (by omega)]; exact h7
  · intro c hc
    rw [hN 8522 (by omega)] at hc
    obtain ⟨p1, p2, p3, p4, p5, p6⟩ := h8 c hc
    refine ⟨by rw [hN c (by omega), hn c (by omega)]; exact p1, by rw [hn (100 + c) (by omega)]; exact p2, by rw [hn (100 + c) (by omega), hn c (by omega)]; exact p3, by rw [hn (100 + c) (by omega), hn c (by omega)]; exact p4, ?_, ?_⟩
    · rw [hn (200 + c) (by omega)]; exact p5.imp id (fun ⟨x, ⟨x1, x2⟩, x3⟩ => ⟨x, ⟨by rw [hN 8522 (by omega)]; exact x1, by rw [hn x (by omega)]; exact x2⟩, x3⟩)
    · rw [hn (300 + c) (by omega)]; exact p6.imp id (fun ⟨x, ⟨x1, x2⟩, x3⟩ => ⟨x, ⟨by rw [hN 8522 (by omega)]; exact x1, by rw [hn x (by omega)]; exact x2⟩, x3⟩)
  · intro c j hc hj
    rw [hN 8522 (by omega)] at hc
    rw [hN (400 + 18 * c + j) (by omega), hn (400 + 18 * c + j) (by omega), hN c (by omega), hN (100 + c) (by omega)]
    exact h9 c j hc hj
  · intro q j hj
    rw [hn 8528 (by omega)] at q
    rw [hN (8504 + j) (by omega), hn (8504 + j) (by omega), hN 8528 (by omega)]
    exact h10 q j hj
  · intro k hk
    rw [hN 8523 (by omega)] at hk
    rw [hN (2200 + k) (by omega), hn (2200 + k) (by omega), hn (4100 + k) (by omega), hN 8526 (by omega)]
    exact h11 k hk
  · intro k i2 hk hi2
    rw [hN 8523 (by omega)] at hk
    rw [hN (2200 + k) (by omega)] at hi2
    have hl := (h11 k hk).1.2
    rw [hN (2300 + 18 * k + i2) (by omega), hn (2300 + 18 * k + i2) (by omega)]
    exact h12 k i2 hk hi2
  · intro k d hk hd
    rw [hN 8523 (by omega)] at hk
    rw [hN 8525 (by omega), hn (4504 + 40 * k + d) (by omega)]
    exact h13 k d hk hd
  · intro c hc
    rw [hN 8524 (by omega)] at hc
    rw [hN (4200 + c) (by omega), hn (4200 + c) (by omega), hN (4212 + c) (by omega), hn (4212 + c) (by omega)]
    exact h14 c hc
  · intro c p hc hp
    rw [hN 8524 (by omega)] at hc
    rw [hN (4212 + c) (by omega)] at hp
    have hl := b8 c hc
    have hl0 := b8 c0 hc0
    rw [hN 8522 (by omega)]
    by_cases q : c = c0 ∧ p = p0
    · obtain ⟨rfl, rfl⟩ := q
      rw [hv]
      exact hv0
    · rw [hn (4224 + 20 * c + p) (by omega)]
      exact h15 c p hc hp
  · intro d hd
    rw [hN 8525 (by omega)] at hd
    rw [hn (4464 + d) (by omega), hN 8522 (by omega)]
    exact h16 d hd

/-! one slot, written behind remember() and behind change() -/
theorem sl_s_nw {e : sl} (h : sl_r e) : sl_s e < 4504 ∨ 8504 ≤ sl_s e := by
  obtain ⟨t, c, j⟩ := e
  match t, h with
  | 0, h =>
    obtain ⟨hc, rfl⟩ := h
    match c, hc with
    | 0, _ | 1, _ | 2, _ | 3, _ | 4, _ | 5, _ | 6, _ => right; decide
  | 1, h => left; have := h.1; show c < 4504; omega
  | 2, h => left; have := h.1; show 100 + c < 4504; omega
  | 3, h => left; have := h.1; show 200 + c < 4504; omega
  | 4, h => left; have := h.1; show 300 + c < 4504; omega
  | 5, h => left; have := h.1; have := h.2; show 400 + 18 * c + j < 4504; omega
  | 6, h => right; show 8504 ≤ 8504 + j; omega
  | 7, h => left; have := h.1; show 2200 + c < 4504; omega
  | 8, h => left; have := h.1; show 4100 + c < 4504; omega
  | 9, h => left; have := h.1; have := h.2; show 2300 + 18 * c + j < 4504; omega
  | 10, h => left; have := h.1; show 4200 + c < 4504; omega
  | 11, h => left; have := h.1; show 4212 + c < 4504; omega
  | 12, h => left; have := h.1; have := h.2; show 4224 + 20 * c + j < 4504; omega
  | 13, h => left; have := h.1; show 4464 + c < 4504; omega
  | t + 14, h => exact h.elim
/-- the state of the class is one slot away -/
theorem Corr.one {τ τr : kT} {s : Nat → Int32} {b : Nat} (h : Corr τ b s) (hi : ∀ x, x < 19 → q_i τr (b + x) = q_i τ (b + x)) (hl : q_l τr (b + 12) = q_l τ (b + 12) ∧ q_l τr (b + 13) = q_l τ (b + 13)) (e0 : sl) (v : Int32) (hr : sl_r e0) (hI : InvS (upd s (sl_s e0) v)) (hd : ∀ e, sl_d (upd s (sl_s e0) v) e → e ≠ e0 → sl_d s e) (hk : N (upd s (sl_s e0) v) 8523 = N s 8523) (hk100 : N s 8523 ≤ 100) : Corr (q_si τr (b + sl_x e0) (sl_k e0) v) b (upd s (sl_s e0) v) := by
  refine ⟨CorI.set (D := sl_d s) (CorI.congr h.1 hi) e0 v hr hd (sl_d_r hI.bnd), fun k d hk2 hd2 => ?_⟩
  rw [hk] at hk2
  rw [q_l_si, hl.1, hl.2, upd_at, if_neg (by have := sl_s_nw hr; omega)]
  exact h.2 k d hk2 hd2
theorem remP.now {τ τr : kT} (h : remP τ τr) : (∀ x, x < 19 → q_i τr (1 + x) = q_i τ (1 + x)) ∧ (q_l τr (1 + 12) = q_l τ (1 + 12) ∧ q_l τr (1 + 13) = q_l τ (1 + 13)) := ⟨fun x hx => h.1 _ (by omega) (by omega), h.2.1 _ (by decide), h.2.1 _ (by decide)⟩
theorem J.hz {τ : kT} (h : J τ) : ∀ k, 8530 ≤ k → q_i τ 67 k = 0 ∧ q_i τ 68 k = 0 := h.2.2.2.2.2.2.2.2.2.1
theorem J_one {τ τr : kT} (hJ : J τ) (hr : remP τ τr) (e0 : sl) (v : Int32) (hr0 : sl_r e0) (hI : InvS (upd (q_i τ 67) (sl_s e0) v)) (hd : ∀ e, sl_d (upd (q_i τ 67) (sl_s e0) v) e → e ≠ e0 → sl_d (q_i τ 67) e) (hk : N (upd (q_i τ 67) (sl_s e0) v) 8523 = N (q_i τ 67) 8523) {τ1 τ2 : kT} (w : Bool)
    (h1 : τ1 = if w then q_si (q_si τr (1 + sl_x e0) (sl_k e0) v) 0 4 0 else q_si τr (1 + sl_x e0) (sl_k e0) v)
    (h2 : τ2 = if w then q_si (q_si (q_si (q_wi τ1 68 (q_i τ1 67)) 66 2 1) 67 (sl_s e0) v) 66 4 0 else q_si (q_si (q_wi τ1 68 (q_i τ1 67)) 66 2 1) 67 (sl_s e0) v) : J τ2 := by
  have hx := sl_x_lt e0
  have hC := hJ.2.1.one hr.now.1 hr.now.2 e0 v hr0 hI hd hk hJ.1.2.1.2
  have s8529 := (sl_is_ok e0 hr0).2
  obtain ⟨-, -, -, -, -, ⟨s3, s4, s5⟩, -⟩ := id hJ
  have hz2 : ∀ k, 8530 ≤ k → upd (q_i τ 67) (sl_s e0) v k = 0 := fun k hk => by
    rw [upd_at, if_neg (by omega)]
    exact (hJ.hz k hk).1
  cases w with
  | false =>
    simp only [Bool.false_eq_true, if_false] at h1 h2
    have e67 : q_i τ1 67 = q_i τ 67 := by
      rw [h1, q_i_si, if_neg (by omega)]
      exact hr.1 67 (by decide) (by decide)
    have e66 : q_i τ1 66 = q_i τ 66 := by
      rw [h1, q_i_si, if_neg (by omega)]
      exact hr.1 66 (by decide) (by decide)
    refine hJ.wr (τ1 := τ1) (f := upd (q_i τ 0) 2 1) (g := upd (q_i τ 66) 2 1) (s' := upd (q_i τ 67) (sl_s e0) v) ⟨fun x h0 h39 => ?_, ?_, ?_⟩ ⟨fun x hx6 => ?_, fun x hx6 => ?_, ?_, ?_, ?_, ?_⟩ ⟨rfl, rfl, s3, s4, s5, rfl, rfl, rfl⟩ hI (by rw [h1]; exact hC) hz2
    · rw [h1, q_i_si, if_neg (by omega)]; exact hr.1 x h0 (by omega)
    · rw [h1, q_i_si, if_neg (by omega)]; exact hr.2.2.1
    · rw [h1]; exact hr.2.2.2.congr (fun x hx2 => by rw [q_i_si, if_neg (by omega)]) ⟨rfl, rfl⟩
    · rw [h2]; simp only [q_i_si, q_i_wi, show x ≠ 67 by omega, show x ≠ 66 by omega, show x ≠ 68 by omega, if_false]
    · rw [h2]; rfl
    · rw [h2, q_i_si, if_pos rfl, ← e67]; rfl
    · rw [h2]; rfl
    · rw [h2, ← e66]; rfl
    · rw [h2]; rfl
  | true =>
    simp only [if_true] at h1 h2
    have e67 : q_i τ1 67 = q_i τ 67 := by
      rw [h1, q_i_si, if_neg (by omega), q_i_si, if_neg (by omega)]
      exact hr.1 67 (by decide) (by decide)
    have e66 : q_i τ1 66 = q_i τ 66 := by
      rw [h1, q_i_si, if_neg (by omega), q_i_si, if_neg (by omega)]
      exact hr.1 66 (by decide) (by decide)
    refine hJ.wr (τ1 := τ1) (f := upd (upd (q_i τ 0) 2 1) 4 0) (g := upd (upd (q_i τ 66) 2 1) 4 0) (s' := upd (q_i τ 67) (sl_s e0) v) ⟨fun x h0 h39 => ?_, ?_, ?_⟩ ⟨fun x hx6 => ?_, fun x hx6 => ?_, ?_, ?_, ?_, ?_⟩ ⟨rfl, rfl, s3, rfl, s5, rfl, rfl, rfl⟩ hI (by rw [h1]; exact hC.congr (fun x hx2 => by rw [q_i_si, if_neg (by omega)]) ⟨rfl, rfl⟩) hz2
    · rw [h1, q_i_si, if_neg h0, q_i_si, if_neg (by omega)]; exact hr.1 x h0 (by omega)
    · rw [h1, q_i_si, if_pos rfl, q_i_si, if_neg (by omega), hr.2.2.1]
    · rw [h1]; exact hr.2.2.2.congr (fun x hx2 => by rw [q_i_si, if_neg (by omega), q_i_si, if_neg (by omega)]) ⟨rfl, rfl⟩
    · rw [h2]; simp only [q_i_si, q_i_wi, show x ≠ 67 by omega, show x ≠ 66 by omega, show x ≠ 68 by omega, if_false]
    · rw [h2]; rfl
    · rw [h2, q_i_si, if_neg (by decide), q_i_si, if_pos rfl, ← e67]; rfl
    · rw [h2]; rfl
    · rw [h2, ← e66]; rfl
    · rw [h2]; rfl
