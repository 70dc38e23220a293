theorem inv_height {s : Nat → Int32} (h : InvS s) (c i m : Nat) (hc : c < N s 8522) (hi : i < N s (100 + c)) (hm : m < 1024 ∧ popc 10 m ≤ mostK (N s c)) : InvS (upd s (400 + 18 * c + i) (nI m)) := by
  obtain ⟨h1, h2, h3, h4, h5, h6, h7, h8, h9, h10, h11, h12, h13, h14, h15, h16⟩ := id h
  obtain ⟨b1, b2, b3, b4, b5, b6, b7, b8⟩ := h.bnd
  have hn : ∀ j, j ≠ 400 + 18 * c + i → upd s (400 + 18 * c + i) (nI m) j = s j := fun j q => by rw [upd_at, if_neg q]
  have hN : ∀ j, j ≠ 400 + 18 * c + i → N (upd s (400 + 18 * c + i) (nI m)) j = N s j := fun j q => by unfold N; rw [hn j q]
  have hv : upd s (400 + 18 * c + i) (nI m) (400 + 18 * c + i) = nI m := by rw [upd_at, if_pos rfl]
  have hi18 := b6 c hc
  refine ⟨?_, ?_, ?_, ?_, ?_, ?_, ?_, ?_, ?_, ?_, ?_, ?_, ?_, ?_, ?_, ?_⟩
  · rw [hN 8522 (by omega), hn 8522 (by omega)]; exact h1
  · rw [hN 8523 (by omega), hn 8523 (by omega)]; exact h2
  · rw [hN 8524 (by omega), hn 8524 (by omega)]; exact h3
  · rw [hN 8525 (by omega), hn 8525 (by omega)]; exact h4
  · rw [hN 8526 (by omega), hn 8526 (by omega)]; exact h5
  · rw [hN 8527 (by omega), hn 8527 (by omega)]; exact h6
  · rw [hn 8528 (by omega)]; exact h7
  · intro c hc
    rw [hN 8522 (by omega)] at hc
    obtain ⟨p1, p2, p3, p4, p5, p6⟩ := h8 c hc
    refine ⟨by rw [hN c (by omega), hn c (by omega)]; exact p1, by rw [hn (100 + c) (by omega)]; exact p2, by rw [hn (100 + c) (by omega), hn c (by omega)]; exact p3, by rw [hn (100 + c) (by omega), hn c (by omega)]; exact p4, ?_, ?_⟩
    · rw [hn (200 + c) (by omega)]; exact p5.imp id (fun ⟨x, ⟨x1, x2⟩, x3⟩ => ⟨x, ⟨by rw [hN 8522 (by omega)]; exact x1, by rw [hn x (by omega)]; exact x2⟩, x3⟩)
    · rw [hn (300 + c) (by omega)]; exact p6.imp id (fun ⟨x, ⟨x1, x2⟩, x3⟩ => ⟨x, ⟨by rw [hN 8522 (by omega)]; exact x1, by rw [hn x (by omega)]; exact x2⟩, x3⟩)
  · intro c2 j hc2 hj
    rw [hN 8522 (by omega)] at hc2
    rw [hN c2 (by omega), hN (100 + c2) (by omega)]
    by_cases e : 400 + 18 * c2 + j = 400 + 18 * c + i
    · have e1 : c2 = c := by omega
      have e2 : j = i := by omega
      subst e1 e2
      rw [show N (upd s (400 + 18 * c2 + j) (nI m)) (400 + 18 * c2 + j) = m by unfold N; rw [hv, nI_clamp (by omega)], hv]
      exact ⟨rfl, hm.1, hm.2, fun q => by omega⟩
    · rw [hN _ e, hn _ e]; exact h9 c2 j hc2 hj
  · intro q j hj
    rw [hn 8528 (by omega)] at q
    rw [hN (8504 + j) (by omega), hn (8504 + j) (by omega), hN 8528 (by omega)]
    exact h10 q j hj
  · intro k hk
    rw [hN 8523 (by omega)] at hk
    rw [hN (2200 + k) (by omega), hn (2200 + k) (by omega), hn (4100 + k) (by omega), hN 8526 (by omega)]
    exact h11 k hk
  · intro k i2 hk hi2
    rw [hN 8523 (by omega)] at hk
    rw [hN (2200 + k) (by omega)] at hi2
    have hl := (h11 k hk).1.2
    rw [hN (2300 + 18 * k + i2) (by omega), hn (2300 + 18 * k + i2) (by omega)]
    exact h12 k i2 hk hi2
  · intro k d hk hd
    rw [hN 8523 (by omega)] at hk
    rw [hN 8525 (by omega), hn (4504 + 40 * k + d) (by omega)]
    exact h13 k d hk hd
  · intro c hc
    rw [hN 8524 (by omega)] at hc
    rw [hN (4200 + c) (by omega), hn (4200 + c) (by omega), hN (4212 + c) (by omega), hn (4212 + c) (by omega)]
    exact h14 c hc
  · intro c p hc hp
    rw [hN 8524 (by omega)] at hc
    rw [hN (4212 + c) (by omega)] at hp
    have hl := (h14 c hc).2.2
    rw [hn (4224 + 20 * c + p) (by omega), hN 8522 (by omega)]
    exact h15 c p hc hp
  · intro d hd
    rw [hN 8525 (by omega)] at hd
    rw [hn (4464 + d) (by omega), hN 8522 (by omega)]
    exact h16 d hd

theorem s_bitCount {m : Nat} (hm : m < 16384) {τ : kT} {post : Int32 → kT → Prop} (h : post (nI (popc 31 m)) τ) : T_J6_bitCount_0f7a4 (nI m) τ post := by
  intro v1 h1 v2 h2 v3 h3 v4 h4 v5 h5
  have e : v5 &&& 63 = bcF (nI m) := by rw [h5, h4, h3, h2, h1]; rfl
  rw [e, bcF_ok hm]
  exact h
theorem s_bits {m : Nat} (hm : m < 2 ^ 31) {τ : kT} {post : Int32 → kT → Prop} (h : post (nI (popc 31 m)) τ) : T_X11_bits (nI m) τ post := by
  have key : ∀ n k, k + n = 31 → L_X11_bits_4 (nI m) (fun v5 v6 τ7 => post v5 τ7) post (n + 1) (nI (popc k m)) (nI k) τ := by
    intro n
    induction n with
    | zero =>
      intro k hk
      have hk : k = 31 := by omega
      subst hk
      unfold L_X11_bits_4
      exact br_t (by decide) h
    | succ n ih =>
      intro k hk
      unfold L_X11_bits_4
      refine br_f (nI_ge (b := 31) (by omega) (by decide)) (fun v2 h2 v3 h3 => ?_)
      have e : v2 = nI (popc (k + 1) m) := by
        rw [h2, b_shr hm (by omega), show (1 : Int32) = nI 1 from rfl, b_and, nI_add, b_bit, popc_tb]
      rw [e, h3, show nI k + 1 = nI (k + 1) from nI_1 k]
      exact ih (k + 1) (by omega)
  exact ⟨32, key 31 0 (by omega)⟩
theorem s_most {k : Nat} (hk : k ≤ 4) {τ : kT} {post : Int32 → kT → Prop} (h : post (nI (mostK k)) τ) : T_X11_most (nI k) τ post := by
  unfold T_X11_most
  rcases (by omega : k = 0 ∨ k = 1 ∨ k = 2 ∨ k = 3 ∨ k = 4) with rfl | rfl | rfl | rfl | rfl
  · exact bn_f (by decide) h
  · exact bn_t (by decide) (bn_t (by decide) h)
  · exact bn_t (by decide) (bn_t (by decide) h)
  · exact bn_t (by decide) (bn_f (by decide) h)
  · exact bn_t (by decide) (bn_t (by decide) h)
theorem s_X4_isBlind {τ : kT} {c n : Nat} {post : Int32 → kT → Prop} (hm : q_i τ 2 5 = nI n) (hn : n ≤ 100) (hc : c < n) (h1 : q_i τ 3 c = 3 → post 1 τ) (h0 : q_i τ 3 c ≠ 3 → post 0 τ) : T_X4_isBlind (nI c) τ post := by
  unfold T_X4_isBlind
  exact s_X4_has_t hm (by omega) hc (br_f (by decide) ⟨c, rfl, by omega, fun q => h0 q, fun q => h1 q⟩)
theorem s_X4_isCore {τ : kT} {c n : Nat} {post : Int32 → kT → Prop} (hm : q_i τ 2 5 = nI n) (hn : n ≤ 100) (hc : c < n) (h1 : q_i τ 3 c = 2 → post 1 τ) (h0 : q_i τ 3 c ≠ 2 → post 0 τ) : T_X4_isCore (nI c) τ post := by
  unfold T_X4_isCore
  exact s_X4_has_t hm (by omega) hc (br_f (by decide) ⟨c, rfl, by omega, fun q => h0 q, fun q => h1 q⟩)
theorem s_X4_most {τ : kT} {c n k : Nat} {post : Int32 → kT → Prop} (hm : q_i τ 2 5 = nI n) (hn : n ≤ 100) (hc : c < n) (hk : k < 4) (hk2 : q_i τ 3 c = nI k) (h : post (nI (mostK k)) τ) : T_X4_most (nI c) τ post := by
  unfold T_X4_most
  rcases (by omega : k = 0 ∨ k = 1 ∨ k = 2 ∨ k = 3) with rfl | rfl | rfl | rfl
  · refine s_isOf hm hn hc (fun q => absurd q (by rw [hk2]; unfold isP; decide)) (fun q => br_t rfl (s_X4_isBlind hm hn hc (fun q => absurd q (by rw [hk2]; decide)) (fun _ => br_t rfl h)))
  · exact s_isOf hm hn hc (fun q => br_f (by decide) h) (fun q => absurd (by rw [hk2]; unfold isP; decide) q)
  · exact s_isOf hm hn hc (fun q => br_f (by decide) h) (fun q => absurd (by rw [hk2]; unfold isP; decide) q)
  · refine s_isOf hm hn hc (fun q => absurd q (by rw [hk2]; unfold isP; decide)) (fun q => br_t rfl (s_X4_isBlind hm hn hc (fun _ => br_f (by decide) h) (fun q => absurd (by rw [hk2]; decide) q)))
theorem s_hasChamber_t {τ : kT} {c n i r : Nat} {post : Int32 → kT → Prop} (hm : q_i τ 2 5 = nI n) (hn : n ≤ 100) (hc : c < n) (hr : q_i τ 4 c = nI r) (hr2 : r ≤ 18) (hi : i < r) (h : post 1 τ) : T_X4_hasChamber (nI c) (nI i) τ post := by
  unfold T_X4_hasChamber
  exact s_X4_has_t hm (by omega) hc (br_f (by decide) (br_f (nI_pos (by omega)) ⟨c, rfl, by omega, br_f (by rw [hr]; exact nI_ge hi (by omega)) h⟩))
theorem s_hasChamber_f {τ : kT} {c n r : Nat} {a : Int32} {post : Int32 → kT → Prop} (hm : q_i τ 2 5 = nI n) (hn : n ≤ 100) (hc : c < n) (hr : q_i τ 4 c = nI r) (hr2 : r ≤ 18) (hi : ¬ inn a r) (h : post 0 τ) : T_X4_hasChamber (nI c) a τ post := by
  unfold T_X4_hasChamber
  have z := s_rng_f (A := post 0 τ) (B := post 1 τ) hr (by omega) hi h
  exact s_X4_has_t hm (by omega) hc (br_f (by decide) ⟨z.1, fun q => ⟨c, rfl, by omega, z.2 q⟩⟩)
theorem s_hasChamber_o {τ : kT} {c n : Nat} {a : Int32} {post : Int32 → kT → Prop} (hm : q_i τ 2 5 = nI n) (hn : n ≤ 100) (hc : c < n) (hr : q_i τ 4 c = -1) (h : post 0 τ) : T_X4_hasChamber (nI c) a τ post := by
  unfold T_X4_hasChamber
  refine s_X4_has_t hm (by omega) hc (br_f (by decide) ⟨fun _ => h, fun q => ⟨c, rfl, by omega, fun _ => h, fun q2 => absurd ?_ q2⟩⟩)
  rw [hr, i_le]
  rw [i_lt] at q
  have z0 : (0 : Int32).toInt = 0 := rfl
  have z1 : (-1 : Int32).toInt = -1 := rfl
  omega
theorem ix18 (c i : Nat) : nI c * 18 + nI i = nI (c * 18 + i) := by rw [← nI_add, ← pk_mul]; rfl
theorem s_heightsIn {τ : kT} {c n i r : Nat} {post : Int32 → kT → Prop} (hm : q_i τ 2 5 = nI n) (hn : n ≤ 100) (hc : c < n) (hr : q_i τ 4 c = nI r) (hr2 : r ≤ 18) (hi : i < r) (h : post (q_i τ 5 (c * 18 + i)) τ) : T_X4_heightsIn (nI c) (nI i) τ post := by
  unfold T_X4_heightsIn
  exact s_hasChamber_t hm hn hc hr hr2 hi (br_f (by decide) ⟨c * 18 + i, ix18 c i, by omega, h⟩)
theorem s_setHeights {τ : kT} {c n i r : Nat} {v : Int32} {post : kT → Prop} (hm : q_i τ 2 5 = nI n) (hn : n ≤ 100) (hc : c < n) (hr : q_i τ 4 c = nI r) (hr2 : r ≤ 18) (hi : i < r) (h : post (q_si τ 5 (c * 18 + i) v)) : T_X4_setHeights (nI c) (nI i) v τ post := by
  unfold T_X4_setHeights
  exact s_hasChamber_t hm hn hc hr hr2 hi (br_f (by decide) ⟨c * 18 + i, ix18 c i, by omega, fun τ5 h5 => by rw [h5]; exact h⟩)
theorem nI_m1 {r : Nat} (h : r < 2 ^ 31) : nI r ≠ -1 := fun q => absurd (congrArg Int32.toInt q) (by rw [nI_toInt h]; show (r : Int) ≠ -1; omega)
/-- the finding of a chamber: class -/
theorem s_chF {τ : kT} {c n : Nat} {a : Int32} {post : Int32 → kT → Prop} (hJ : J τ) (hm : q_i τ 2 5 = nI n) (hn : n ≤ 100) (hc : c < n) (hcN : c < N (q_i τ 67) 8522) (hA : q_i τ 67 c = 4 → post (-13) τ) (hB : q_i τ 67 c ≠ 4 → q_i τ 67 (100 + c) = -1 → post (-11) τ)
    (hC : q_i τ 67 c ≠ 4 → ∀ r, r ≤ 18 → q_i τ 67 (100 + c) = nI r → ¬ inn a r → post (-12) τ) (hD : q_i τ 67 c ≠ 4 → ∀ r i, r ≤ 18 → q_i τ 67 (100 + c) = nI r → q_i τ 4 c = nI r → i < r → a = nI i → post 0 τ) : T_X4_chamberFinding (nI c) a τ post := by
  have ek : q_i τ 3 c = q_i τ 67 c := hJ.2.1.1 (1, c, 0) ⟨hcN, rfl⟩
  have er : q_i τ 4 c = q_i τ 67 (100 + c) := hJ.2.1.1 (2, c, 0) ⟨hcN, rfl⟩
  unfold T_X4_chamberFinding
  refine s_rowFinding hm hn hc (fun q => ?_) (fun q => br_f (by decide) (hA (ek ▸ q))) (fun q r => br_f (by decide) (hB (ek ▸ q) (er ▸ r))) (fun q r => br_t rfl ?_)
  · rcases hJ.row hcN with ⟨-, -, z⟩ | ⟨r, hr, z, -⟩
    · rw [ek]; exact z
    · rw [z] at q
      exact absurd q (nI_m1 (by omega))
  · rcases hJ.row hcN with ⟨z, -, -⟩ | ⟨m, hm2, z1, z2, -⟩
    · exact absurd z r
    · by_cases hi : inn a m
      · obtain ⟨i, hi, rfl⟩ := hi
        exact s_hasChamber_t hm hn hc z1 hm2 hi (br_f (by decide) (hD (ek ▸ q) m i hm2 z2 z1 hi rfl))
      · exact s_hasChamber_f hm hn hc z1 hm2 hi (br_t rfl (hC (ek ▸ q) m hm2 z2 hi))
/-- and the reference's -/
theorem r_wrong4 {τ : kT} {c : Nat} {a : Int32} {post : Int32 → kT → Prop} (hc : c < 100) (h4 : q_i τ 67 c = 4) (h : post 3 τ) : T_X11_wrong (nI c) a τ post := by
  unfold T_X11_wrong
  exact ⟨c, ev_0a c, by omega, bn_f h4 h⟩
theorem r_wrong1 {τ : kT} {c : Nat} {a : Int32} {post : Int32 → kT → Prop} (hc : c < 100) (h4 : q_i τ 67 c ≠ 4) (hr : q_i τ 67 (100 + c) = -1) (h : post 1 τ) : T_X11_wrong (nI c) a τ post := by
  unfold T_X11_wrong
  exact ⟨c, ev_0a c, by omega, bn_t h4 ⟨100 + c, nI_add 100 c, by omega, br_f (by rw [hr]; decide) h⟩⟩
theorem r_wrong2 {τ : kT} {c r : Nat} {a : Int32} {post : Int32 → kT → Prop} (hc : c < 100) (h4 : q_i τ 67 c ≠ 4) (hr : q_i τ 67 (100 + c) = nI r) (hr2 : r ≤ 18) (hi : ¬ inn a r) (h : post 2 τ) : T_X11_wrong (nI c) a τ post := by
  unfold T_X11_wrong
  exact ⟨c, ev_0a c, by omega, bn_t h4 ⟨100 + c, nI_add 100 c, by omega, br_t (by rw [hr]; exact nI_pos' (by omega)) ⟨100 + c, nI_add 100 c, by omega, s_inN_f (n := r) hr (by omega) hi (br_t rfl h)⟩⟩⟩
theorem r_wrong0 {τ : kT} {c r i : Nat} {post : Int32 → kT → Prop} (hc : c < 100) (h4 : q_i τ 67 c ≠ 4) (hr : q_i τ 67 (100 + c) = nI r) (hr2 : r ≤ 18) (hi : i < r) (h : post 0 τ) : T_X11_wrong (nI c) (nI i) τ post := by
  unfold T_X11_wrong
  exact ⟨c, ev_0a c, by omega, bn_t h4 ⟨100 + c, nI_add 100 c, by omega, br_t (by rw [hr]; exact nI_pos' (by omega)) ⟨100 + c, nI_add 100 c, by omega, s_inN_t (n := r) hr (by omega) hi (br_f (by decide) h)⟩⟩⟩
/-- a chamber's heights -/
theorem J.hts {τ : kT} (h : J τ) {c r i : Nat} (hc : c < N (q_i τ 67) 8522) (hr : q_i τ 67 (100 + c) = nI r) (hr2 : r ≤ 18) (hi : i < r) : ∃ m, m < 1024 ∧ q_i τ 5 (c * 18 + i) = nI m ∧ q_i τ 67 (400 + 18 * c + i) = nI m ∧ popc 10 m ≤ mostK (N (q_i τ 67) c) := by
  have e : N (q_i τ 67) (100 + c) = r := by unfold N; rw [hr, nI_clamp (by omega)]
  obtain ⟨p1, p2, p3, -⟩ := h.1.2.2.2.2.2.2.2.2.1 c i hc (by omega)
  exact ⟨_, p2, (h.2.1.1 (5, c, i) ⟨hc, by rw [e]; exact hi⟩).trans p1, p1, p3⟩
