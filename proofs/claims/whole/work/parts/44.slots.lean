/-- the slots' own bounds -/
def sl_r : sl → Prop
  | (0, c, j) => c < 7 ∧ j = 0
  | (1, c, j) => c < 100 ∧ j = 0
  | (2, c, j) => c < 100 ∧ j = 0
  | (3, c, j) => c < 100 ∧ j = 0
  | (4, c, j) => c < 100 ∧ j = 0
  | (5, c, j) => c < 100 ∧ j < 18
  | (6, c, j) => c = 0 ∧ j < 18
  | (7, c, j) => c < 100 ∧ j = 0
  | (8, c, j) => c < 100 ∧ j = 0
  | (9, c, j) => c < 100 ∧ j < 18
  | (10, c, j) => c < 12 ∧ j = 0
  | (11, c, j) => c < 12 ∧ j = 0
  | (12, c, j) => c < 12 ∧ j < 20
  | (13, c, j) => c < 40 ∧ j = 0
  | (_, _, _) => False
def sl_is (i : Nat) : sl :=
  if i < 100 then (1, i, 0) else if i < 200 then (2, i - 100, 0) else if i < 300 then (3, i - 200, 0) else if i < 400 then (4, i - 300, 0)
  else if i < 2200 then (5, (i - 400) / 18, (i - 400) % 18) else if i < 2300 then (7, i - 2200, 0) else if i < 4100 then (9, (i - 2300) / 18, (i - 2300) % 18)
  else if i < 4200 then (8, i - 4100, 0) else if i < 4212 then (10, i - 4200, 0) else if i < 4224 then (11, i - 4212, 0) else if i < 4464 then (12, (i - 4224) / 20, (i - 4224) % 20)
  else if i < 4504 then (13, i - 4464, 0) else if i < 8504 then (14, 0, 0) else if i < 8522 then (6, 0, i - 8504)
  else if i = 8525 then (0, 0, 0) else if i = 8526 then (0, 1, 0) else if i = 8527 then (0, 2, 0) else if i = 8522 then (0, 3, 0) else if i = 8528 then (0, 4, 0) else if i = 8523 then (0, 5, 0) else (0, 6, 0)
def sl_ix (x k : Nat) : sl :=
  if x = 0 then (0, k - 4, 0) else if x = 1 then (0, k - 2, 0) else if x = 8 then (0, 5, 0) else if x = 14 then (0, 6, 0)
  else if x = 2 then (1, k, 0) else if x = 3 then (2, k, 0) else if x = 5 then (3, k, 0) else if x = 6 then (4, k, 0) else if x = 4 then (5, k / 18, k % 18) else if x = 7 then (6, 0, k)
  else if x = 9 then (7, k, 0) else if x = 11 then (8, k, 0) else if x = 10 then (9, k / 18, k % 18) else if x = 15 then (10, k, 0) else if x = 16 then (11, k, 0) else if x = 17 then (12, k / 20, k % 20) else (13, k, 0)
theorem sl_is_ok : ∀ e, sl_r e → sl_is (sl_s e) = e ∧ sl_s e < 8529
  | (0, 0, j), h => by obtain ⟨-, rfl⟩ := h; exact ⟨rfl, by decide⟩
  | (0, 1, j), h => by obtain ⟨-, rfl⟩ := h; exact ⟨rfl, by decide⟩
  | (0, 2, j), h => by obtain ⟨-, rfl⟩ := h; exact ⟨rfl, by decide⟩
  | (0, 3, j), h => by obtain ⟨-, rfl⟩ := h; exact ⟨rfl, by decide⟩
  | (0, 4, j), h => by obtain ⟨-, rfl⟩ := h; exact ⟨rfl, by decide⟩
  | (0, 5, j), h => by obtain ⟨-, rfl⟩ := h; exact ⟨rfl, by decide⟩
  | (0, 6, j), h => by obtain ⟨-, rfl⟩ := h; exact ⟨rfl, by decide⟩
  | (0, c + 7, j), h => absurd h.1 (by omega)
  | (1, c, j), h => by
    obtain ⟨h1, rfl⟩ := h
    simp only [sl_s, sl_is]
    rw [if_pos (by omega)]
    exact ⟨rfl, by omega⟩
  | (2, c, j), h => by
    obtain ⟨h1, rfl⟩ := h
    simp only [sl_s, sl_is]
    rw [if_neg (by omega), if_pos (by omega), show 100 + c - 100 = c by omega]
    exact ⟨rfl, by omega⟩
  | (3, c, j), h => by
    obtain ⟨h1, rfl⟩ := h
    simp only [sl_s, sl_is]
    rw [if_neg (by omega), if_neg (by omega), if_pos (by omega), show 200 + c - 200 = c by omega]
    exact ⟨rfl, by omega⟩
  | (4, c, j), h => by
    obtain ⟨h1, rfl⟩ := h
    simp only [sl_s, sl_is]
    rw [if_neg (by omega), if_neg (by omega), if_neg (by omega), if_pos (by omega), show 300 + c - 300 = c by omega]
    exact ⟨rfl, by omega⟩
  | (5, c, j), h => by
    obtain ⟨h1, h2⟩ := h
    simp only [sl_s, sl_is]
    rw [if_neg (by omega), if_neg (by omega), if_neg (by omega), if_neg (by omega), if_pos (by omega), show (400 + 18 * c + j - 400) / 18 = c by omega, show (400 + 18 * c + j - 400) % 18 = j by omega]
    exact ⟨rfl, by omega⟩
  | (6, c, j), h => by
    obtain ⟨rfl, h2⟩ := h
    simp only [sl_s, sl_is]
    rw [if_neg (by omega), if_neg (by omega), if_neg (by omega), if_neg (by omega), if_neg (by omega), if_neg (by omega), if_neg (by omega), if_neg (by omega), if_neg (by omega), if_neg (by omega), if_neg (by omega), if_neg (by omega), if_neg (by omega), if_pos (by omega), show 8504 + j - 8504 = j by omega]
    exact ⟨rfl, by omega⟩
  | (7, c, j), h => by
    obtain ⟨h1, rfl⟩ := h
    simp only [sl_s, sl_is]
    rw [if_neg (by omega), if_neg (by omega), if_neg (by omega), if_neg (by omega), if_neg (by omega), if_pos (by omega), show 2200 + c - 2200 = c by omega]
    exact ⟨rfl, by omega⟩
  | (8, c, j), h => by
    obtain ⟨h1, rfl⟩ := h
    simp only [sl_s, sl_is]
    rw [if_neg (by omega), if_neg (by omega), if_neg (by omega), if_neg (by omega), if_neg (by omega), if_neg (by omega), if_neg (by omega), if_pos (by omega), show 4100 + c - 4100 = c by omega]
    exact ⟨rfl, by omega⟩
  | (9, c, j), h => by
    obtain ⟨h1, h2⟩ := h
    simp only [sl_s, sl_is]
    rw [if_neg (by omega), if_neg (by omega), if_neg (by omega), if_neg (by omega), if_neg (by omega), if_neg (by omega), if_pos (by omega), show (2300 + 18 * c + j - 2300) / 18 = c by omega, show (2300 + 18 * c + j - 2300) % 18 = j by omega]
    exact ⟨rfl, by omega⟩
  | (10, c, j), h => by
    obtain ⟨h1, rfl⟩ := h
    simp only [sl_s, sl_is]
    rw [if_neg (by omega), if_neg (by omega), if_neg (by omega), if_neg (by omega), if_neg (by omega), if_neg (by omega), if_neg (by omega), if_neg (by omega), if_pos (by omega), show 4200 + c - 4200 = c by omega]
    exact ⟨rfl, by omega⟩
  | (11, c, j), h => by
    obtain ⟨h1, rfl⟩ := h
    simp only [sl_s, sl_is]
    rw [if_neg (by omega), if_neg (by omega), if_neg (by omega), if_neg (by omega), if_neg (by omega), if_neg (by omega), if_neg (by omega), if_neg (by omega), if_neg (by omega), if_pos (by omega), show 4212 + c - 4212 = c by omega]
    exact ⟨rfl, by omega⟩
  | (12, c, j), h => by
    obtain ⟨h1, h2⟩ := h
    simp only [sl_s, sl_is]
    rw [if_neg (by omega), if_neg (by omega), if_neg (by omega), if_neg (by omega), if_neg (by omega), if_neg (by omega), if_neg (by omega), if_neg (by omega), if_neg (by omega), if_neg (by omega), if_pos (by omega), show (4224 + 20 * c + j - 4224) / 20 = c by omega, show (4224 + 20 * c + j - 4224) % 20 = j by omega]
    exact ⟨rfl, by omega⟩
  | (13, c, j), h => by
    obtain ⟨h1, rfl⟩ := h
    simp only [sl_s, sl_is]
    rw [if_neg (by omega), if_neg (by omega), if_neg (by omega), if_neg (by omega), if_neg (by omega), if_neg (by omega), if_neg (by omega), if_neg (by omega), if_neg (by omega), if_neg (by omega), if_neg (by omega), if_pos (by omega), show 4464 + c - 4464 = c by omega]
    exact ⟨rfl, by omega⟩
  | (t + 14, c, j), h => h.elim
theorem sl_ix_ok : ∀ e, sl_r e → sl_ix (sl_x e) (sl_k e) = e
  | (0, 0, j), h => by obtain ⟨-, rfl⟩ := h; rfl
  | (0, 1, j), h => by obtain ⟨-, rfl⟩ := h; rfl
  | (0, 2, j), h => by obtain ⟨-, rfl⟩ := h; rfl
  | (0, 3, j), h => by obtain ⟨-, rfl⟩ := h; rfl
  | (0, 4, j), h => by obtain ⟨-, rfl⟩ := h; rfl
  | (0, 5, j), h => by obtain ⟨-, rfl⟩ := h; rfl
  | (0, 6, j), h => by obtain ⟨-, rfl⟩ := h; rfl
  | (0, c + 7, j), h => absurd h.1 (by omega)
  | (1, c, j), h => by obtain ⟨-, rfl⟩ := h; rfl
  | (2, c, j), h => by obtain ⟨-, rfl⟩ := h; rfl
  | (3, c, j), h => by obtain ⟨-, rfl⟩ := h; rfl
  | (4, c, j), h => by obtain ⟨-, rfl⟩ := h; rfl
  | (5, c, j), h => by
    show ((5, (c * 18 + j) / 18, (c * 18 + j) % 18) : sl) = _
    have := h.2
    rw [show (c * 18 + j) / 18 = c by omega, show (c * 18 + j) % 18 = j by omega]
  | (6, c, j), h => by obtain ⟨rfl, -⟩ := h; rfl
  | (7, c, j), h => by obtain ⟨-, rfl⟩ := h; rfl
  | (8, c, j), h => by obtain ⟨-, rfl⟩ := h; rfl
  | (9, c, j), h => by
    show ((9, (c * 18 + j) / 18, (c * 18 + j) % 18) : sl) = _
    have := h.2
    rw [show (c * 18 + j) / 18 = c by omega, show (c * 18 + j) % 18 = j by omega]
  | (10, c, j), h => by obtain ⟨-, rfl⟩ := h; rfl
  | (11, c, j), h => by obtain ⟨-, rfl⟩ := h; rfl
  | (12, c, j), h => by
    show ((12, (c * 20 + j) / 20, (c * 20 + j) % 20) : sl) = _
    have := h.2
    rw [show (c * 20 + j) / 20 = c by omega, show (c * 20 + j) % 20 = j by omega]
  | (13, c, j), h => by obtain ⟨-, rfl⟩ := h; rfl
  | (t + 14, c, j), h => h.elim
theorem sl_s_inj {e e2 : sl} (h : sl_r e) (h2 : sl_r e2) (q : sl_s e = sl_s e2) : e = e2 := by
  rw [← (sl_is_ok e h).1, ← (sl_is_ok e2 h2).1, q]
theorem sl_x_inj {e e2 : sl} (h : sl_r e) (h2 : sl_r e2) (q : sl_x e = sl_x e2) (q2 : sl_k e = sl_k e2) : e = e2 := by
  rw [← sl_ix_ok e h, ← sl_ix_ok e2 h2, q, q2]
/-- rows within their bounds -/
def bndS (s : Nat → Int32) : Prop := N s 8522 ≤ 100 ∧ N s 8523 ≤ 100 ∧ N s 8524 ≤ 12 ∧ N s 8525 ≤ 40 ∧ N s 8528 ≤ 18 ∧ (∀ c, c < N s 8522 → N s (100 + c) ≤ 18) ∧ (∀ k, k < N s 8523 → N s (2200 + k) ≤ 18) ∧ (∀ c, c < N s 8524 → N s (4212 + c) ≤ 20)
theorem z_or.N18 {s : Nat → Int32} {i : Nat} (h : z_or (s i) (· ≤ 18)) : N s i ≤ 18 := by
  rcases h with q | ⟨r, hr, q⟩
  · unfold N; rw [q]; decide
  · unfold N; rw [q, nI_clamp (by omega)]; exact hr
theorem InvS.bnd {s : Nat → Int32} (h : InvS s) : bndS s := by
  obtain ⟨h1, h2, h3, h4, h5, h6, h7, h8, h9, h10, h11, h12, h13, h14, h15, h16⟩ := h
  exact ⟨h1.2, h2.2, h3.2, h4.2, h7.N18, fun c hc => (h8 c hc).2.1.N18, fun k hk => (h11 k hk).1.2, fun c hc => (h14 c hc).2.2⟩
theorem sl_d_r {s : Nat → Int32} (hb : bndS s) : ∀ e, sl_d s e → sl_r e := by
  obtain ⟨b1, b2, b3, b4, b5, b6, b7, b8⟩ := hb
  rintro ⟨t, c, j⟩ h
  match t, h with
  | 0, h => exact h
  | 1, h => exact ⟨Nat.lt_of_lt_of_le h.1 b1, h.2⟩
  | 2, h => exact ⟨Nat.lt_of_lt_of_le h.1 b1, h.2⟩
  | 3, h => exact ⟨Nat.lt_of_lt_of_le h.1 b1, h.2⟩
  | 4, h => exact ⟨Nat.lt_of_lt_of_le h.1 b1, h.2⟩
  | 5, h => exact ⟨Nat.lt_of_lt_of_le h.1 b1, Nat.lt_of_lt_of_le h.2 (b6 c h.1)⟩
  | 6, h => exact ⟨h.1, Nat.lt_of_lt_of_le h.2 b5⟩
  | 7, h => exact ⟨Nat.lt_of_lt_of_le h.1 b2, h.2⟩
  | 8, h => exact ⟨Nat.lt_of_lt_of_le h.1 b2, h.2⟩
  | 9, h => exact ⟨Nat.lt_of_lt_of_le h.1 b2, Nat.lt_of_lt_of_le h.2 (b7 c h.1)⟩
  | 10, h => exact ⟨Nat.lt_of_lt_of_le h.1 b3, h.2⟩
  | 11, h => exact ⟨Nat.lt_of_lt_of_le h.1 b3, h.2⟩
  | 12, h => exact ⟨Nat.lt_of_lt_of_le h.1 b3, Nat.lt_of_lt_of_le h.2 (b8 c h.1)⟩
  | 13, h => exact ⟨Nat.lt_of_lt_of_le h.1 b4, h.2⟩
  | t + 14, h => exact h.elim
/-- the slots' agreement alone -/
def CorI (τ : kT) (b : Nat) (s : Nat → Int32) (D : sl → Prop) : Prop := ∀ e, D e → q_i τ (b + sl_x e) (sl_k e) = s (sl_s e)
/-- one slot is set on both sides -/
theorem CorI.set {τ : kT} {b : Nat} {s : Nat → Int32} {D D2 : sl → Prop} (h : CorI τ b s D) (e0 : sl) (v : Int32) (hr : sl_r e0) (hD : ∀ e, D2 e → e ≠ e0 → D e) (hD2 : ∀ e, D2 e → sl_r e) : CorI (q_si τ (b + sl_x e0) (sl_k e0) v) b (upd s (sl_s e0) v) D2 := by
  intro e he
  by_cases q : e = e0
  · subst q
    rw [q_i_si, if_pos rfl, upd_at, upd_at, if_pos rfl, if_pos rfl]
  · have n1 : sl_s e ≠ sl_s e0 := fun z => q (sl_s_inj (hD2 e he) hr z)
    rw [upd_at, if_neg n1, ← h e (hD e he q), q_i_si]
    by_cases n2 : b + sl_x e = b + sl_x e0
    · rw [if_pos n2, upd_at, if_neg (fun z => q (sl_x_inj (hD2 e he) hr (by omega) z))]
      rw [n2]
    · rw [if_neg n2]
theorem CorI.mono {τ : kT} {b : Nat} {s : Nat → Int32} {D D2 : sl → Prop} (h : CorI τ b s D) (hD : ∀ e, D2 e → D e) : CorI τ b s D2 := fun e he => h e (hD e he)
theorem CorI.congr {τ τ2 : kT} {b : Nat} {s : Nat → Int32} {D : sl → Prop} (h : CorI τ b s D) (hi : ∀ x, x < 19 → q_i τ2 (b + x) = q_i τ (b + x)) : CorI τ2 b s D := fun e he => by rw [hi _ (sl_x_lt e)]; exact h e he
/-! what a class's op leaves, what the reference's leaves -/
def clsW (τ τ1 : kT) (f : Nat → Int32) : Prop := (∀ x, x ≠ 0 → ¬ (1 ≤ x ∧ x < 39) → q_i τ1 x = q_i τ x) ∧ q_i τ1 0 = f ∧ Corr τ1 20 (q_i τ 67)
def refW (τ1 τ2 : kT) (s' g : Nat → Int32) : Prop := (∀ x, x < 66 → q_i τ2 x = q_i τ1 x) ∧ (∀ x, x < 66 → q_l τ2 x = q_l τ1 x) ∧ q_i τ2 67 = s' ∧ q_i τ2 68 = q_i τ1 67 ∧ q_i τ2 66 = g ∧ q_i τ2 69 = q_i τ1 69
theorem J.wr {τ τ1 τ2 : kT} {f g s' : Nat → Int32} (h : J τ) (hc : clsW τ τ1 f) (hr : refW τ1 τ2 s' g) (hf : f 2 = 1 ∧ g 2 = 1 ∧ g 3 = f 3 ∧ g 4 = f 4 ∧ g 5 = f 5 ∧ g 6 = q_i τ 66 6 ∧ g 9 = q_i τ 66 9 ∧ g 10 = q_i τ 66 10) (hI : InvS s') (hC : Corr τ1 1 s') (hz : ∀ k, 8530 ≤ k → s' k = 0) : J τ2 := by
  obtain ⟨a1, a2, a3, a4, a5, a6, a7, a8, a9, a10⟩ := h
  obtain ⟨c1, c2, c3⟩ := hc
  obtain ⟨r1, r2, r3, r4, r5, r6⟩ := hr
  obtain ⟨f1, f2, f3, f4, f5, f6, f7, f8⟩ := hf
  have e67 : q_i τ1 67 = q_i τ 67 := c1 67 (by decide) (by decide)
  have e39 : q_i τ2 39 = q_i τ 39 := (r1 39 (by decide)).trans (c1 39 (by decide) (by decide))
  have e40 : q_i τ2 40 = q_i τ 40 := (r1 40 (by decide)).trans (c1 40 (by decide) (by decide))
  have e41 : q_i τ2 41 = q_i τ 41 := (r1 41 (by decide)).trans (c1 41 (by decide) (by decide))
  have e45 : q_i τ2 45 = q_i τ 45 := (r1 45 (by decide)).trans (c1 45 (by decide) (by decide))
  have e69 : q_i τ2 69 = q_i τ 69 := r6.trans (c1 69 (by decide) (by decide))
  have e0 : q_i τ2 0 = f := (r1 0 (by decide)).trans c2
  refine ⟨by rw [r3]; exact hI, by rw [r3]; exact hC.congr (fun x hx => r1 _ (by omega)) ⟨r2 _ (by decide), r2 _ (by decide)⟩, Or.inr (by rw [e0]; exact f1), by rw [r5, e0, f1, f2], fun _ => ⟨by rw [r4, e67]; exact a1, by rw [r4, e67]; exact c3.congr (fun x hx => r1 _ (by omega)) ⟨r2 _ (by decide), r2 _ (by decide)⟩⟩, by rw [r5, e0]; exact ⟨f3, f4, f5⟩, by rw [r5, e39, f6]; exact a7, by rw [r5, e45, f8]; exact a8, by rw [r5, e40, e41, e69, f7]; exact a9, fun k hk => ⟨by rw [r3]; exact hz k hk, by rw [r4, e67]; exact (a10.1 k hk).1⟩, by rw [r1 65 (by decide), c1 65 (by decide) (by decide)]; exact a10.2⟩
