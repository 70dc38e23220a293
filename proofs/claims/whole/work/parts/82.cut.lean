/-! ===== behind a cutting ===== -/
theorem inv_cut {s s2 : Nat → Int32} (h : InvS s) (d n lo T : Nat) (g : Nat → Nat) (op : Nat → Nat → Bool) (hD : DOK s d n) (hn5 : n ≤ 5) (hkey : ∀ t, t < T → key lo t < N s 8523) (g9 : ∀ t, t < T → ∀ c, c < n → g (t * n + c) ≤ 9) (hMk : ∀ j, j < d → ∀ c, c < n → Mk op (hhS s) lo n T g j c < 1024 ∧ popc 10 (Mk op (hhS s) lo n T g j c) ≤ msS s j) (hL : ∀ t, t < T → s2 (2200 + key lo t) = nI n) (hU : ∀ t, t < T → ∀ c, c < n → s2 (2300 + 18 * key lo t + c) = nI (g (t * n + c))) (hH : ∀ j, j < d → ∀ c, c < n → s2 (400 + 18 * cyS s j + c) = nI (Mk op (hhS s) lo n T g j c)) (hO : ∀ i, (∀ t, t < T → i ≠ 2200 + key lo t) → (∀ t, t < T → ∀ c, c < n → i ≠ 2300 + 18 * key lo t + c) → (∀ j, j < d → ∀ c, c < n → i ≠ 400 + 18 * cyS s j + c) → s2 i = s i) (hn : ∀ i, i < 400 ∨ 4100 ≤ i → s2 i = s i) : InvS s2 := by
  obtain ⟨h1, h2, h3, h4, h5, h6, h7, h8, h9, h10, h11, h12, h13, h14, h15, h16⟩ := id h
  obtain ⟨b1, b2, b3, b4, b5, b6, b7, b8⟩ := h.bnd
  have hN : ∀ i, i < 400 ∨ 4100 ≤ i → N s2 i = N s i := fun i q => by unfold N; rw [hn i q]
  have b100 : ∀ t, t < T → key lo t < 100 := fun t ht => by have := hkey t ht; omega
  have c100 : ∀ j, j < d → cyS s j < 100 := fun j hj => by have := (hD j hj).2.1; omega
  have oL : ∀ y, y < 100 → (∀ t, t < T → y ≠ key lo t) → s2 (2200 + y) = s (2200 + y) := fun y hy hq => hO _ (fun t ht => by have := hq t ht; omega) (fun t ht c hc => by omega) (fun j hj c hc => by have := c100 j hj; omega)
  have oU : ∀ y c, y < 100 → c < 18 → (∀ t, t < T → y ≠ key lo t) → s2 (2300 + 18 * y + c) = s (2300 + 18 * y + c) := fun y c hy hc hq => hO _ (fun t ht => by have := b100 t ht; omega) (fun t ht c' hc' => by have := hq t ht; omega) (fun j hj c' hc' => by have := c100 j hj; omega)
  have oH : ∀ x c, x < 100 → c < 18 → (∀ j, j < d → x = cyS s j → n ≤ c) → s2 (400 + 18 * x + c) = s (400 + 18 * x + c) := fun x c hx hc hq => hO _ (fun t ht => by have := b100 t ht; omega) (fun t ht c' hc' => by omega) (fun j hj c' hc' w => by
    have := c100 j hj
    have e : x = cyS s j := by omega
    have := hq j hj e
    omega)
  have rown : ∀ j, j < d → N s (100 + cyS s j) = n := fun j hj => by unfold N; rw [(hD j hj).2.2.2.1, nI_clamp (by omega)]
  refine ⟨?_, ?_, ?_, ?_, ?_, ?_, ?_, ?_, ?_, ?_, ?_, ?_, ?_, ?_, ?_, ?_⟩
  · rw [hN 8522 (by omega), hn 8522 (by omega)]; exact h1
  · rw [hN 8523 (by omega), hn 8523 (by omega)]; exact h2
  · rw [hN 8524 (by omega), hn 8524 (by omega)]; exact h3
  · rw [hN 8525 (by omega), hn 8525 (by omega)]; exact h4
  · rw [hN 8526 (by omega), hn 8526 (by omega)]; exact h5
  · rw [hN 8527 (by omega), hn 8527 (by omega)]; exact h6
  · rw [hn 8528 (by omega)]; exact h7
  · intro c hc
    rw [hN 8522 (by omega)] at hc
    obtain ⟨p1, p2, p3, p4, p5, p6⟩ := h8 c hc
    refine ⟨by rw [hN c (by omega), hn c (by omega)]; exact p1, by rw [hn (100 + c) (by omega)]; exact p2, by rw [hn (100 + c) (by omega), hn c (by omega)]; exact p3, by rw [hn (100 + c) (by omega), hn c (by omega)]; exact p4, ?_, ?_⟩
    · rw [hn (200 + c) (by omega)]; exact p5.imp id (fun ⟨x, ⟨x1, x2⟩, x3⟩ => ⟨x, ⟨by rw [hN 8522 (by omega)]; exact x1, by rw [hn x (by omega)]; exact x2⟩, x3⟩)
    · rw [hn (300 + c) (by omega)]; exact p6.imp id (fun ⟨x, ⟨x1, x2⟩, x3⟩ => ⟨x, ⟨by rw [hN 8522 (by omega)]; exact x1, by rw [hn x (by omega)]; exact x2⟩, x3⟩)
  · intro c j hc hj
    rw [hN 8522 (by omega)] at hc
    rw [hN c (by omega), hN (100 + c) (by omega)]
    by_cases q : ∃ j0, j0 < d ∧ c = cyS s j0 ∧ j < n
    · obtain ⟨j0, q1, q2, q3⟩ := q
      have e := hH j0 q1 j q3
      obtain ⟨m1, m2⟩ := hMk j0 q1 j q3
      rw [← q2] at e
      have eN : N s2 (400 + 18 * c + j) = Mk op (hhS s) lo n T g j0 j := by unfold N; rw [e, nI_clamp (by omega)]
      refine ⟨by rw [eN]; exact e, by rw [eN]; exact m1, ?_, fun w => ?_⟩
      · rw [eN]
        unfold msS at m2
        rw [← q2] at m2
        exact m2
      · have := rown j0 q1
        rw [← q2] at this
        omega
    · have e : s2 (400 + 18 * c + j) = s (400 + 18 * c + j) := oH c j (by omega) hj (fun j0 q1 q2 => by
        rcases Nat.lt_or_ge j n with y | y
        · exact absurd ⟨j0, q1, q2, y⟩ q
        · exact y)
      rw [show N s2 (400 + 18 * c + j) = N s (400 + 18 * c + j) by unfold N; rw [e], e]
      exact h9 c j hc hj
  · intro q j hj
    rw [hn 8528 (by omega)] at q
    rw [hN (8504 + j) (by omega), hn (8504 + j) (by omega), hN 8528 (by omega)]
    exact h10 q j hj
  · intro k hk
    rw [hN 8523 (by omega)] at hk
    rw [hn (4100 + k) (by omega), hN 8526 (by omega)]
    refine ⟨?_, (h11 k hk).2⟩
    by_cases q : ∃ t, t < T ∧ k = key lo t
    · obtain ⟨t, t1, t2⟩ := q
      have e := hL t t1
      rw [← t2] at e
      have eN : N s2 (2200 + k) = n := by unfold N; rw [e, nI_clamp (by omega)]
      rw [eN]
      exact ⟨e, by omega⟩
    · have e := oL k (by omega) (fun t ht w => q ⟨t, ht, w⟩)
      rw [show N s2 (2200 + k) = N s (2200 + k) by unfold N; rw [e], e]
      exact (h11 k hk).1
  · intro k i2 hk hi2
    rw [hN 8523 (by omega)] at hk
    by_cases q : ∃ t, t < T ∧ k = key lo t
    · obtain ⟨t, t1, t2⟩ := q
      have e := hL t t1
      rw [← t2] at e
      have eN : N s2 (2200 + k) = n := by unfold N; rw [e, nI_clamp (by omega)]
      rw [eN] at hi2
      have e3 := hU t t1 i2 hi2
      rw [← t2] at e3
      have g3 := g9 t t1 i2 hi2
      have eN3 : N s2 (2300 + 18 * k + i2) = g (t * n + i2) := by unfold N; rw [e3, nI_clamp (by omega)]
      rw [eN3]
      exact ⟨e3, g3⟩
    · have e := oL k (by omega) (fun t ht w => q ⟨t, ht, w⟩)
      rw [show N s2 (2200 + k) = N s (2200 + k) by unfold N; rw [e]] at hi2
      have hl := (h11 k hk).1.2
      have e3 := oU k i2 (by omega) (by omega) (fun t ht w => q ⟨t, ht, w⟩)
      rw [show N s2 (2300 + 18 * k + i2) = N s (2300 + 18 * k + i2) by unfold N; rw [e3], e3]
      exact h12 k i2 hk hi2
  · intro k d hk hd
    rw [hN 8523 (by omega)] at hk
    rw [hN 8525 (by omega), hn (4504 + 40 * k + d) (by omega)]
    exact h13 k d hk hd
  · intro c hc
    rw [hN 8524 (by omega)] at hc
    rw [hN (4200 + c) (by omega), hn (4200 + c) (by omega), hN (4212 + c) (by omega), hn (4212 + c) (by omega)]
    exact h14 c hc
  · intro c p hc hp
    rw [hN 8524 (by omega)] at hc
    rw [hN (4212 + c) (by omega)] at hp
    have hl := (h14 c hc).2.2
    rw [hn (4224 + 20 * c + p) (by omega), hN 8522 (by omega)]
    exact h15 c p hc hp
  · intro d hd
    rw [hN 8525 (by omega)] at hd
    rw [hn (4464 + d) (by omega), hN 8522 (by omega)]
    exact h16 d hd
theorem corr_cut {τ τ1 : kT} {s s2 : Nat → Int32} (hI : InvS s) (hC : Corr τ 1 s) (d n lo T : Nat) (g : Nat → Nat) (op : Nat → Nat → Bool) (hD : DOK s d n) (hn5 : n ≤ 5) (hkey : ∀ t, t < T → key lo t < N s 8523) (g9 : ∀ t, t < T → ∀ c, c < n → g (t * n + c) ≤ 9) (hMk : ∀ j, j < d → ∀ c, c < n → Mk op (hhS s) lo n T g j c < 1024 ∧ popc 10 (Mk op (hhS s) lo n T g j c) ≤ msS s j) (hL : ∀ t, t < T → s2 (2200 + key lo t) = nI n) (hU : ∀ t, t < T → ∀ c, c < n → s2 (2300 + 18 * key lo t + c) = nI (g (t * n + c))) (hH : ∀ j, j < d → ∀ c, c < n → s2 (400 + 18 * cyS s j + c) = nI (Mk op (hhS s) lo n T g j c)) (hO : ∀ i, (∀ t, t < T → i ≠ 2200 + key lo t) → (∀ t, t < T → ∀ c, c < n → i ≠ 2300 + 18 * key lo t + c) → (∀ j, j < d → ∀ c, c < n → i ≠ 400 + 18 * cyS s j + c) → s2 i = s i) (x10a : ∀ t, t < T → q_i τ1 10 (key lo t) = nI n) (x10b : ∀ y, (∀ t, t < T → y ≠ key lo t) → q_i τ1 10 y = q_i τ 10 y) (x11a : ∀ t, t < T → ∀ c, c < n → q_i τ1 11 (key lo t * 18 + c) = nI (g (t * n + c))) (x11b : ∀ i, (∀ t, t < T → ∀ c, c < n → i ≠ key lo t * 18 + c) → q_i τ1 11 i = q_i τ 11 i) (x5a : ∀ j, j < d → opened op lo T j → ∀ c, c < n → q_i τ1 5 (cyS s j * 18 + c) = nI (mk op lo n g j c T)) (x5b : ∀ i, (∀ j, j < d → opened op lo T j → ∀ c, c < n → i ≠ cyS s j * 18 + c) → q_i τ1 5 i = q_i τ 5 i) (hn : ∀ i, i < 400 ∨ 4100 ≤ i → s2 i = s i) (hx : ∀ x, x ≠ 5 ∧ x ≠ 10 ∧ x ≠ 11 ∧ 1 ≤ x ∧ x < 20 → q_i τ1 x = q_i τ x) (hl : ∀ (k d : Nat), wishOf (q_l τ1 (1 + 12) k) (q_l τ1 (1 + 13) k) d = wishOf (q_l τ (1 + 12) k) (q_l τ (1 + 13) k) d) : Corr τ1 1 s2 := by
  obtain ⟨b1, b2, b3, b4, b5, b6, b7, b8⟩ := hI.bnd
  have hN : ∀ i, i < 400 ∨ 4100 ≤ i → N s2 i = N s i := fun i q => by unfold N; rw [hn i q]
  have b100 : ∀ t, t < T → key lo t < 100 := fun t ht => by have := hkey t ht; omega
  have c100 : ∀ j, j < d → cyS s j < 100 := fun j hj => by have := (hD j hj).2.1; omega
  have oL : ∀ y, y < 100 → (∀ t, t < T → y ≠ key lo t) → s2 (2200 + y) = s (2200 + y) := fun y hy hq => hO _ (fun t ht => by have := hq t ht; omega) (fun t ht c hc => by omega) (fun j hj c hc => by have := c100 j hj; omega)
  have oU : ∀ y c, y < 100 → c < 18 → (∀ t, t < T → y ≠ key lo t) → s2 (2300 + 18 * y + c) = s (2300 + 18 * y + c) := fun y c hy hc hq => hO _ (fun t ht => by have := b100 t ht; omega) (fun t ht c' hc' => by have := hq t ht; omega) (fun j hj c' hc' => by have := c100 j hj; omega)
  have oH : ∀ x c, x < 100 → c < 18 → (∀ j, j < d → x = cyS s j → n ≤ c) → s2 (400 + 18 * x + c) = s (400 + 18 * x + c) := fun x c hx hc hq => hO _ (fun t ht => by have := b100 t ht; omega) (fun t ht c' hc' => by omega) (fun j hj c' hc' w => by
    have := c100 j hj
    have e : x = cyS s j := by omega
    have := hq j hj e
    omega)
  have rown : ∀ j, j < d → N s (100 + cyS s j) = n := fun j hj => by unfold N; rw [(hD j hj).2.2.2.1, nI_clamp (by omega)]
  refine ⟨?_, fun k d hk hd => ?_⟩
  · rintro ⟨t, c, j⟩ h
    match t, h with
    | 0, h =>
      obtain ⟨hc7, rfl⟩ := h
      match c, hc7 with
      | 0, _ =>
        show q_i τ1 1 4 = s2 8525
        rw [hx 1 (by omega), hn 8525 (by omega)]
        exact hC.1 (0, 0, 0) ⟨by decide, rfl⟩
      | 1, _ =>
        show q_i τ1 1 5 = s2 8526
        rw [hx 1 (by omega), hn 8526 (by omega)]
        exact hC.1 (0, 1, 0) ⟨by decide, rfl⟩
      | 2, _ =>
        show q_i τ1 1 6 = s2 8527
        rw [hx 1 (by omega), hn 8527 (by omega)]
        exact hC.1 (0, 2, 0) ⟨by decide, rfl⟩
      | 3, _ =>
        show q_i τ1 2 5 = s2 8522
        rw [hx 2 (by omega), hn 8522 (by omega)]
        exact hC.1 (0, 3, 0) ⟨by decide, rfl⟩
      | 4, _ =>
        show q_i τ1 2 6 = s2 8528
        rw [hx 2 (by omega), hn 8528 (by omega)]
        exact hC.1 (0, 4, 0) ⟨by decide, rfl⟩
      | 5, _ =>
        show q_i τ1 9 5 = s2 8523
        rw [hx 9 (by omega), hn 8523 (by omega)]
        exact hC.1 (0, 5, 0) ⟨by decide, rfl⟩
      | 6, _ =>
        show q_i τ1 15 3 = s2 8524
        rw [hx 15 (by omega), hn 8524 (by omega)]
        exact hC.1 (0, 6, 0) ⟨by decide, rfl⟩
    | 1, h =>
      have h : c < N s2 8522 ∧ j = 0 := h
      rw [hN 8522 (by omega)] at h
      obtain ⟨g1, rfl⟩ := h
      show q_i τ1 3 c = s2 (c)
      rw [hx 3 (by omega), hn (c) (by omega)]
      exact hC.1 (1, c, 0) ⟨g1, rfl⟩
    | 2, h =>
      have h : c < N s2 8522 ∧ j = 0 := h
      rw [hN 8522 (by omega)] at h
      obtain ⟨g1, rfl⟩ := h
      show q_i τ1 4 c = s2 (100 + c)
      rw [hx 4 (by omega), hn (100 + c) (by omega)]
      exact hC.1 (2, c, 0) ⟨g1, rfl⟩
    | 3, h =>
      have h : c < N s2 8522 ∧ j = 0 := h
      rw [hN 8522 (by omega)] at h
      obtain ⟨g1, rfl⟩ := h
      show q_i τ1 6 c = s2 (200 + c)
      rw [hx 6 (by omega), hn (200 + c) (by omega)]
      exact hC.1 (3, c, 0) ⟨g1, rfl⟩
    | 4, h =>
      have h : c < N s2 8522 ∧ j = 0 := h
      rw [hN 8522 (by omega)] at h
      obtain ⟨g1, rfl⟩ := h
      show q_i τ1 7 c = s2 (300 + c)
      rw [hx 7 (by omega), hn (300 + c) (by omega)]
      exact hC.1 (4, c, 0) ⟨g1, rfl⟩
    | 5, h =>
      have h : c < N s2 8522 ∧ j < N s2 (100 + c) := h
      rw [hN 8522 (by omega)] at h
      obtain ⟨g1, g2⟩ := h
      rw [hN (100 + c) (by omega)] at g2
      have g3 := b6 c g1
      show q_i τ1 5 (c * 18 + j) = s2 (400 + 18 * c + j)
      have old : q_i τ 5 (c * 18 + j) = s (400 + 18 * c + j) := hC.1 (5, c, j) ⟨g1, g2⟩
      by_cases q : ∃ j0, j0 < d ∧ c = cyS s j0
      · obtain ⟨j0, q1, q2⟩ := q
        have rn := rown j0 q1
        rw [← q2] at rn
        have hjn : j < n := by omega
        have e := hH j0 q1 j hjn
        rw [← q2] at e
        rw [e]
        by_cases o : opened op lo T j0
        · have nz : mk op lo n g j0 j T ≠ 0 := fun w => by
            obtain ⟨t, ht, u⟩ := o
            rw [(mk_0 T).mp w t ht] at u
            exact absurd u (by decide)
          have := x5a j0 q1 o j hjn
          rw [← q2] at this
          rw [this]
          congr 1
          exact (if_neg nz).symm
        · have z : mk op lo n g j0 j T = 0 := (mk_0 T).mpr (fun t ht => by
            cases w : op (key lo t) j0 with
            | false => rfl
            | true => exact absurd ⟨t, ht, w⟩ o)
          rw [x5b _ (fun j' hj' o' c' hc' w => ?_), old]
          · obtain ⟨mm, -, m2, m3⟩ := hI.hts g1 (i := j) (by omega)
            rw [m2, ← m3]
            congr 1
            unfold Mk hhS
            rw [if_pos z, ← q2]
          · have e2 : c = cyS s j' := by omega
            by_cases ej : j' = j0
            · rw [ej] at o'; exact o o'
            · rcases Nat.lt_or_ge j' j0 with y | y
              · exact (hD j0 q1).2.2.2.2 j' y (by rw [← e2, ← q2])
              · exact (hD j' hj').2.2.2.2 j0 (by omega) (by rw [← e2, ← q2])
      · rw [x5b _ (fun j' hj' o' c' hc' w => q ⟨j', hj', by omega⟩), oH c j (by omega) (by omega) (fun j0 q1 q2 => absurd ⟨j0, q1, q2⟩ q)]
        exact old
    | 6, h =>
      have h : c = 0 ∧ j < N s2 8528 := h
      rw [hN 8528 (by omega)] at h
      obtain ⟨rfl, g2⟩ := h
      show q_i τ1 8 j = s2 (8504 + j)
      rw [hx 8 (by omega), hn (8504 + j) (by omega)]
      exact hC.1 (6, 0, j) ⟨rfl, g2⟩
    | 7, h =>
      have h : c < N s2 8523 ∧ j = 0 := h
      rw [hN 8523 (by omega)] at h
      obtain ⟨g1, rfl⟩ := h
      show q_i τ1 10 c = s2 (2200 + c)
      by_cases q : ∃ t, t < T ∧ c = key lo t
      · obtain ⟨t, t1, t2⟩ := q
        rw [t2, x10a t t1, hL t t1]
      · rw [x10b c (fun t ht w => q ⟨t, ht, w⟩), oL c (by omega) (fun t ht w => q ⟨t, ht, w⟩)]
        exact hC.1 (7, c, 0) ⟨g1, rfl⟩
    | 8, h =>
      have h : c < N s2 8523 ∧ j = 0 := h
      rw [hN 8523 (by omega)] at h
      obtain ⟨g1, rfl⟩ := h
      show q_i τ1 12 c = s2 (4100 + c)
      rw [hx 12 (by omega), hn (4100 + c) (by omega)]
      exact hC.1 (8, c, 0) ⟨g1, rfl⟩
    | 9, h =>
      have h : c < N s2 8523 ∧ j < N s2 (2200 + c) := h
      rw [hN 8523 (by omega)] at h
      obtain ⟨g1, g2⟩ := h
      show q_i τ1 11 (c * 18 + j) = s2 (2300 + 18 * c + j)
      by_cases q : ∃ t, t < T ∧ c = key lo t
      · obtain ⟨t, t1, t2⟩ := q
        have e := hL t t1
        rw [← t2] at e
        have eN : N s2 (2200 + c) = n := by unfold N; rw [e, nI_clamp (by omega)]
        rw [eN] at g2
        rw [t2, x11a t t1 j g2, hU t t1 j g2]
      · have e := oL c (by omega) (fun t ht w => q ⟨t, ht, w⟩)
        rw [show N s2 (2200 + c) = N s (2200 + c) by unfold N; rw [e]] at g2
        have g3 := b7 c g1
        rw [x11b _ (fun t ht c' hc' w => q ⟨t, ht, by omega⟩), oU c j (by omega) (by omega) (fun t ht w => q ⟨t, ht, w⟩)]
        exact hC.1 (9, c, j) ⟨g1, g2⟩
    | 10, h =>
      have h : c < N s2 8524 ∧ j = 0 := h
      rw [hN 8524 (by omega)] at h
      obtain ⟨g1, rfl⟩ := h
      show q_i τ1 16 c = s2 (4200 + c)
      rw [hx 16 (by omega), hn (4200 + c) (by omega)]
      exact hC.1 (10, c, 0) ⟨g1, rfl⟩
    | 11, h =>
      have h : c < N s2 8524 ∧ j = 0 := h
      rw [hN 8524 (by omega)] at h
      obtain ⟨g1, rfl⟩ := h
      show q_i τ1 17 c = s2 (4212 + c)
      rw [hx 17 (by omega), hn (4212 + c) (by omega)]
      exact hC.1 (11, c, 0) ⟨g1, rfl⟩
    | 12, h =>
      have h : c < N s2 8524 ∧ j < N s2 (4212 + c) := h
      rw [hN 8524 (by omega)] at h
      obtain ⟨g1, g2⟩ := h
      rw [hN (4212 + c) (by omega)] at g2
      have g3 := b8 c g1
      show q_i τ1 18 (c * 20 + j) = s2 (4224 + 20 * c + j)
      rw [hx 18 (by omega), hn (4224 + 20 * c + j) (by omega)]
      exact hC.1 (12, c, j) ⟨g1, g2⟩
    | 13, h =>
      have h : c < N s2 8525 ∧ j = 0 := h
      rw [hN 8525 (by omega)] at h
      obtain ⟨g1, rfl⟩ := h
      show q_i τ1 19 c = s2 (4464 + c)
      rw [hx 19 (by omega), hn (4464 + c) (by omega)]
      exact hC.1 (13, c, 0) ⟨g1, rfl⟩
    | t + 14, h => exact h.elim
  · rw [hN 8523 (by omega)] at hk
    rw [hl k d, hn (4504 + 40 * k + d) (by omega)]
    exact hC.2 k d hk hd
