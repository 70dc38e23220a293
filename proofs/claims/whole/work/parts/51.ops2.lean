theorem s_X4_hasOrNone_n {τ : kT} {post : Int32 → kT → Prop} (h : post 1 τ) : T_X4_hasOrNone (-1) τ post := by
  unfold T_X4_hasOrNone
  exact br_t rfl h
theorem s_X4_hasOrNone_t {τ : kT} {c n : Nat} {post : Int32 → kT → Prop} (hm : q_i τ 2 5 = nI n) (hn : n < 2 ^ 31) (hc : c < n) (h : post 1 τ) : T_X4_hasOrNone (nI c) τ post := by
  unfold T_X4_hasOrNone
  refine br_f (fun q => absurd (congrArg Int32.toInt q) (by rw [nI_toInt (by omega)]; show (c : Int) ≠ -1; omega)) ?_
  exact s_X4_has_t hm hn hc (br_f (by decide) h)
theorem s_X4_hasOrNone_f {τ : kT} {a : Int32} {n : Nat} {post : Int32 → kT → Prop} (hm : q_i τ 2 5 = nI n) (hn : n < 2 ^ 31) (h1 : a ≠ -1) (hc : ¬ inn a n) (h : post 0 τ) : T_X4_hasOrNone a τ post := by
  unfold T_X4_hasOrNone
  refine br_f h1 ?_
  exact s_X4_has_f hm hn hc (br_t rfl h)
theorem s_X5_hasCut_t {τ : kT} {c n i m : Nat} {post : Int32 → kT → Prop} (hm : q_i τ 9 5 = nI n) (hn : n ≤ 100) (hc : c < n) (hl : q_i τ 10 c = nI m) (hm2 : m < 2 ^ 31) (hi : i < m) (h : post 1 τ) : T_X5_hasCut (nI c) (nI i) τ post := by
  unfold T_X5_hasCut
  refine s_X5_has_t hm (by omega) hc (br_f (by decide) ?_)
  refine br_f (nI_pos (by omega)) ⟨c, rfl, by omega, ?_⟩
  rw [hl]
  exact br_f (nI_ge hi hm2) h
theorem s_X5_hasCut_f {τ : kT} {c n m : Nat} {a : Int32} {post : Int32 → kT → Prop} (hm : q_i τ 9 5 = nI n) (hn : n ≤ 100) (hc : c < n) (hl : q_i τ 10 c = nI m) (hm2 : m < 2 ^ 31) (hi : ¬ inn a m) (h : post 0 τ) : T_X5_hasCut (nI c) a τ post := by
  unfold T_X5_hasCut
  refine s_X5_has_t hm (by omega) hc (br_f (by decide) ?_)
  have z := s_rng_f (A := post 0 τ) (B := post 1 τ) hl hm2 hi h
  exact ⟨z.1, fun q => ⟨c, rfl, by omega, z.2 q⟩⟩
theorem s_X0_hasPlace_t {τ : kT} {c n i m : Nat} {post : Int32 → kT → Prop} (hm : q_i τ 15 3 = nI n) (hn : n ≤ 12) (hc : c < n) (hl : q_i τ 17 c = nI m) (hm2 : m < 2 ^ 31) (hi : i < m) (h : post 1 τ) : T_X0_hasPlace (nI c) (nI i) τ post := by
  unfold T_X0_hasPlace
  refine s_X0_has_t hm (by omega) hc (br_f (by decide) ?_)
  refine br_f (nI_pos (by omega)) ⟨c, rfl, by omega, ?_⟩
  rw [hl]
  exact br_f (nI_ge hi hm2) h
theorem s_X0_hasPlace_f {τ : kT} {c n m : Nat} {a : Int32} {post : Int32 → kT → Prop} (hm : q_i τ 15 3 = nI n) (hn : n ≤ 12) (hc : c < n) (hl : q_i τ 17 c = nI m) (hm2 : m < 2 ^ 31) (hi : ¬ inn a m) (h : post 0 τ) : T_X0_hasPlace (nI c) a τ post := by
  unfold T_X0_hasPlace
  refine s_X0_has_t hm (by omega) hc (br_f (by decide) ?_)
  have z := s_rng_f (A := post 0 τ) (B := post 1 τ) hl hm2 hi h
  exact ⟨z.1, fun q => ⟨c, rfl, by omega, z.2 q⟩⟩
/-- a key's length, a cabinet's width -/
theorem J.len {τ : kT} (h : J τ) {k : Nat} (hk : k < N (q_i τ 67) 8523) : ∃ m, m ≤ 18 ∧ q_i τ 10 k = nI m ∧ q_i τ 67 (2200 + k) = nI m ∧ N (q_i τ 67) (2200 + k) = m := ⟨_, (h.1.2.2.2.2.2.2.2.2.2.2.1 k hk).1.2, (h.2.1.1 (7, k, 0) ⟨hk, rfl⟩).trans (h.1.2.2.2.2.2.2.2.2.2.2.1 k hk).1.1, (h.1.2.2.2.2.2.2.2.2.2.2.1 k hk).1.1, rfl⟩
theorem J.wid {τ : kT} (h : J τ) {k : Nat} (hk : k < N (q_i τ 67) 8524) : ∃ m, m ≤ 20 ∧ q_i τ 17 k = nI m ∧ q_i τ 67 (4212 + k) = nI m ∧ N (q_i τ 67) (4212 + k) = m := ⟨_, (h.1.2.2.2.2.2.2.2.2.2.2.2.2.2.1 k hk).2.2, (h.2.1.1 (11, k, 0) ⟨hk, rfl⟩).trans (h.1.2.2.2.2.2.2.2.2.2.2.2.2.2.1 k hk).2.1, (h.1.2.2.2.2.2.2.2.2.2.2.2.2.2.1 k hk).2.1, rfl⟩
theorem s_ok_small {r : Int32} (h : ∃ n : Nat, n < 2 ^ 31 ∧ r = nI n) : -11 < r.toInt ∧ r.toInt ≠ -2 ∧ r.toInt ≠ -3 ∧ r.toInt ≠ -4 := by
  obtain ⟨n, hn, rfl⟩ := h
  rw [nI_toInt hn]
  omega
theorem s_ok_z {r : Int32} {m : Nat} (hm : m < 2 ^ 31) (h : z_or r (· < m)) : -11 < r.toInt ∧ r.toInt ≠ -2 ∧ r.toInt ≠ -3 ∧ r.toInt ≠ -4 := by
  rcases h with rfl | ⟨n, hn, rfl⟩
  · decide
  · have hn : n < m := hn
    exact s_ok_small ⟨n, by omega, rfl⟩
theorem k_cut_op : K_cut J := by
  intro a b τ hJ
  obtain ⟨n, hn, e1, e2, e3⟩ := hJ.nk
  unfold T_X10_cut T_X11_cut
  by_cases h : inn a n
  · obtain ⟨c, hc, rfl⟩ := h
    obtain ⟨m, hm, l1, l2, l3⟩ := hJ.len (k := c) (by rw [e3]; exact hc)
    refine s_X5_has_t e1 (by omega) hc (bn_t (by decide) ?_)
    by_cases hi : inn b m
    · obtain ⟨i, hi, rfl⟩ := hi
      have hv : q_i τ 11 (c * 18 + i) = q_i τ 67 (2300 + 18 * c + i) := hJ.2.1.1 (9, c, i) ⟨by rw [e3]; exact hc, by rw [l3]; exact hi⟩
      have hs := hJ.1.2.2.2.2.2.2.2.2.2.2.2.1 c i (by rw [e3]; exact hc) (by rw [l3]; exact hi)
      refine s_X5_hasCut_t e1 hn hc l1 (by omega) hi (br_f (by decide) ?_)
      unfold T_X5_cutAt
      refine s_X5_hasCut_t e1 hn hc l1 (by omega) hi (br_f (by decide) ⟨c * 18 + i, by rw [← nI_add, ← pk_mul]; rfl, by omega, ?_⟩)
      rw [hv]
      refine s_settle_ok (s_ok_small ⟨_, by have := hs.2; omega, hs.1⟩) ?_
      refine s_X11_isKey_t e2 (by omega) hc (bn_t (by decide) ⟨2200 + c, nI_add 2200 c, by omega, ?_⟩)
      refine s_inN_t (n := m) l2 (by omega) hi (br_f (by decide) ⟨2300 + 18 * c + i, ev_3 2300 18 c i, by omega, ?_⟩)
      exact s_well ⟨rfl, e_well hJ⟩
    · refine s_X5_hasCut_f e1 hn hc l1 (by omega) hi (br_t rfl ?_)
      refine s_settle_met (f := 2) ⟨by decide, by decide⟩ ?_
      refine s_X11_isKey_t e2 (by omega) hc (bn_t (by decide) ⟨2200 + c, nI_add 2200 c, by omega, ?_⟩)
      refine s_inN_f (n := m) l2 (by omega) hi (br_t rfl ?_)
      exact s_met ⟨by decide, e_met hJ 2⟩
  · refine s_X5_has_f e1 (by omega) h (bn_f rfl ?_)
    exact s_X11_isKey_f e2 (by omega) h (bn_f rfl ⟨rfl, hJ⟩)
theorem k_inside_op : K_inside J := by
  intro a b τ hJ
  obtain ⟨n, hn, e1, e2, e3⟩ := hJ.nb
  obtain ⟨nc, hnc, c1, c2, c3⟩ := hJ.nc
  unfold T_X10_inside T_X11_inside
  by_cases h : inn a n
  · obtain ⟨c, hc, rfl⟩ := h
    obtain ⟨m, hm, l1, l2, l3⟩ := hJ.wid (k := c) (by rw [e3]; exact hc)
    refine s_X0_has_t e1 (by omega) hc (bn_t (by decide) ?_)
    by_cases hi : inn b m
    · obtain ⟨i, hi, rfl⟩ := hi
      have hv : q_i τ 18 (c * 20 + i) = q_i τ 67 (4224 + 20 * c + i) := hJ.2.1.1 (12, c, i) ⟨by rw [e3]; exact hc, by rw [l3]; exact hi⟩
      have hs := hJ.1.2.2.2.2.2.2.2.2.2.2.2.2.2.2.1 c i (by rw [e3]; exact hc) (by rw [l3]; exact hi)
      refine s_X0_hasPlace_t e1 hn hc l1 (by omega) hi (br_f (by decide) ?_)
      unfold T_X0_cylinderAt
      refine s_X0_hasPlace_t e1 hn hc l1 (by omega) hi (br_f (by decide) ⟨c * 20 + i, by rw [← nI_add, ← pk_mul]; rfl, by omega, ?_⟩)
      rw [hv]
      refine s_settle_ok (s_ok_z (by omega) hs) ?_
      refine s_inN_t (n := n) e2 (by omega) hc (bn_t (by decide) ⟨4212 + c, nI_add 4212 c, by omega, ?_⟩)
      refine s_inN_t (n := m) l2 (by omega) hi (br_f (by decide) ⟨4224 + 20 * c + i, ev_3 4224 20 c i, by omega, ?_⟩)
      exact s_well ⟨rfl, e_well hJ⟩
    · refine s_X0_hasPlace_f e1 hn hc l1 (by omega) hi (br_t rfl ?_)
      refine s_settle_met (f := 2) ⟨by decide, by decide⟩ ?_
      refine s_inN_t (n := n) e2 (by omega) hc (bn_t (by decide) ⟨4212 + c, nI_add 4212 c, by omega, ?_⟩)
      refine s_inN_f (n := m) l2 (by omega) hi (br_t rfl ?_)
      exact s_met ⟨by decide, e_met hJ 2⟩
  · refine s_X0_has_f e1 (by omega) h (bn_f rfl ?_)
    exact s_inN_f (n := n) e2 (by omega) h (bn_f rfl ⟨rfl, hJ⟩)
theorem k_blanks_op : K_blanks J := by
  intro a τ hJ
  obtain ⟨b, hb, e1, e2, e3⟩ := hJ.bl
  unfold T_X10_blanks T_X11_blanks
  by_cases h : inn a 101
  · obtain ⟨n, hn, rfl⟩ := h
    refine br_f (nI_pos (by omega)) (br_t ((nI_leI (b := 100) (by omega) (by decide)).mpr (by omega)) ?_)
    have hs : q_i τ 1 6 + nI n = nI (b + n) := by rw [e1]; exact nI_add b n
    have hin : ∀ {τ2 : kT} {post : Int32 → kT → Prop}, post 1 τ2 → T_X11_in ((nI n).toInt64) (0 : Int64) (100 : Int64) τ2 post := fun hp => s_in_t (by
      rw [i_64, nI_toInt (by omega)]
      show (0 : Int) ≤ _ ∧ _ ≤ (100 : Int)
      omega) hp
    rw [hs]
    by_cases hle : b + n ≤ 1000
    · refine br_t ((nI_leI (b := 1000) (by omega) (by decide)).mpr hle) (s_remember hJ (fun τr hr => fun τ1 h1 => ?_))
      have er : q_i τr 1 = q_i τ 1 := hr.1 1 (by decide) (by decide)
      rw [er, hs] at h1
      have e67 : q_i τ1 67 = q_i τ 67 := by rw [h1]; exact hr.st 1 6 _ (by decide)
      have hs2 : q_i τ1 67 8527 + nI n = nI (b + n) := by rw [e67, e2]; exact nI_add b n
      refine hin (bn_t (by decide) ?_)
      rw [hs2]
      refine br_t ((nI_leI (b := 1000) (by omega) (by decide)).mpr hle) (s_change (by rw [h1]; exact hr.hz hJ 1 6 _ (by decide)) (fun τ2 h2 => ?_))
      have hv2 : q_i (q_si (q_wi τ1 68 (q_i τ1 67)) 66 2 1) 67 8527 + nI n = nI (b + n) := hs2
      rw [hv2] at h2
      refine ⟨?_, J_one hJ hr (0, 2, 0) (nI (b + n)) ⟨by decide, rfl⟩ (inv_blanks hJ.1 (b + n) hle) (fun e he _ => sl_d_upd hJ.1.bnd (by decide) (fun c hc => ⟨by show 8527 ≠ _; omega, by show 8527 ≠ _; omega⟩) (fun c hc => by show 8527 ≠ _; omega) e he) (N_upd (by decide)) false h1 h2⟩
      rw [h1, h2]
      rfl
    · refine br_f (fun q => hle ((nI_leI (b := 1000) (by omega) (by decide)).mp q)) ?_
      refine hin (bn_t (by decide) ?_)
      rw [e2, nI_add]
      exact br_f (fun q => hle ((nI_leI (b := 1000) (by omega) (by decide)).mp q)) ⟨rfl, hJ⟩
  · rw [inn_iff (by decide)] at h
    have hout : T_X11_in (a.toInt64) (0 : Int64) (100 : Int64) τ (fun r1 τ2 => ((¬ r1 = 0 → ((((q_i τ2 67 8527) + a) ≤ (1000 : Int32) → (T_X11_change τ2 (fun τ6 => (∀ τ7 : kT, τ7 = q_si τ6 67 8527 ((q_i τ6 67 8527) + a) → (-2 : Int32) = (q_i τ7 67 8527) ∧ J τ7)))) ∧ (¬ ((q_i τ2 67 8527) + a) ≤ (1000 : Int32) → (-2 : Int32) = (-4 : Int32) ∧ J τ2))) ∧ (r1 = 0 → (-2 : Int32) = (-2 : Int32) ∧ J τ2))) := by
      refine s_in_f ?_ (bn_f rfl ⟨rfl, hJ⟩)
      rw [i_64]
      show ¬ ((0 : Int) ≤ _ ∧ _ ≤ (100 : Int))
      omega
    refine ⟨fun _ => hout, fun q => ⟨fun q2 => absurd ⟨?_, ?_⟩ h, fun _ => hout⟩⟩
    · rw [i_lt] at q
      have : (0 : Int32).toInt = 0 := rfl
      omega
    · rw [i_le] at q2
      have : (100 : Int32).toInt = 100 := rfl
      omega
/-! undo -/
theorem s_undo_loop {τ : kT} {post : Int32 → kT → Prop} {K : Int32 → kT → Prop} (hz : ∀ k, 8530 ≤ k → q_i τ 67 k = 0 ∧ q_i τ 68 k = 0) (h : K (nI 8530) (q_wi τ 67 (q_i τ 68))) : ∃ m, L_X11_undo_12 K post m (0 : Int32) τ := by
  have key : ∀ (m j : Nat) (f : Nat → Int32), j + m = 8530 → (∀ k, k < j → f k = q_i τ 68 k) → (∀ k, 8530 ≤ k → f k = q_i τ 67 k) → L_X11_undo_12 K post (m + 1) (nI j) (q_wi τ 67 f) := by
    intro m
    induction m with
    | zero =>
      intro j f hj h1 h2
      have hj : j = 8530 := by omega
      subst hj
      unfold L_X11_undo_12
      refine br_t (by decide) ?_
      have ef : f = q_i τ 68 := by
        funext k
        by_cases hk : k < 8530
        · exact h1 k hk
        · rw [h2 k (by omega), (hz k (by omega)).1, (hz k (by omega)).2]
      rw [ef]
      exact h
    | succ m ih =>
      intro j f hj h1 h2
      unfold L_X11_undo_12
      refine br_f (by rw [show (8530 : Int32) = nI 8530 from rfl]; exact nI_ge (by omega) (by omega)) ⟨j, rfl, by omega, j, rfl, by omega, fun τ4 e4 v5 e5 => ?_⟩
      have e6 : τ4 = q_wi τ 67 (upd f j (q_i τ 68 j)) := by
        rw [e4]
        show ((va_up (va_up τ.1 67 f) 67 (upd (va_up τ.1 67 f 67) j (τ.1 68 j)), τ.2) : kT) = (va_up τ.1 67 (upd f j (τ.1 68 j)), τ.2)
        refine congrArg (fun g => ((g, τ.2) : kT)) ?_
        funext x
        by_cases hx : x = 67 <;> simp [va_up, hx]
      rw [e6, e5, show nI j + 1 = nI (j + 1) from nI_1 j]
      refine ih (j + 1) _ (by omega) (fun k hk => ?_) (fun k hk => ?_)
      · rw [upd_at]
        by_cases e : k = j
        · rw [if_pos e, e]
        · rw [if_neg e]; exact h1 k (by omega)
      · rw [upd_at, if_neg (by omega)]
        exact h2 k hk
  refine ⟨8531, ?_⟩
  have := key 8530 0 (q_i τ 67) (by omega) (fun k hk => by omega) (fun k hk => rfl)
  have e : q_wi τ 67 (q_i τ 67) = τ := by
    show ((va_up τ.1 67 (τ.1 67), τ.2) : kT) = τ
    obtain ⟨a, b⟩ := τ
    refine congrArg (fun g => ((g, b) : kT)) ?_
    funext x
    by_cases hx : x = 67 <;> simp [va_up, hx]
  rw [e] at this
  exact this
theorem Corr.move {τ τ2 : kT} {b b2 : Nat} {s : Nat → Int32} (h : Corr τ b s) (hi : ∀ x, x < 19 → q_i τ2 (b2 + x) = q_i τ (b + x)) (hl : q_l τ2 (b2 + 12) = q_l τ (b + 12) ∧ q_l τ2 (b2 + 13) = q_l τ (b + 13)) : Corr τ2 b2 s := by
  refine ⟨fun e he => ?_, fun k d hk hd => ?_⟩
  · rw [hi _ (sl_x_lt e)]
    exact h.1 e he
  · rw [hl.1, hl.2]
    exact h.2 k d hk hd
theorem k_undo_op : K_undo J := by
  intro τ hJ
  obtain ⟨a1, a2, a3, a4, a5, ⟨s3, s4, s5⟩, a7, a8, a9, a10⟩ := id hJ
  unfold T_X11_undo
  refine ⟨fun q => ?_, fun q => ?_⟩
  · exact bn_f (by rw [a4]; exact q) ⟨rfl, hJ⟩
  · have q1 : q_i τ 0 2 = 1 := a3.resolve_left q
    obtain ⟨b1, b2⟩ := a5 q1
    have w : ∀ x, 39 ≤ x → q_i (q_undo τ) x = q_i τ x := fun x hx => by
      show (q_si τ 0 2 0).1 (k_sw2 x) = _
      have e : k_sw2 x = x := by unfold k_sw2; rw [if_neg (by omega), if_neg (by omega)]
      rw [e]
      show q_i (q_si τ 0 2 0) x = _
      rw [q_i_si, if_neg (by omega)]
    refine bn_t (by rw [w 66 (by decide), a4, q1]; decide) (s_undo_loop (by rw [w 67 (by decide), w 68 (by decide)]; exact a10.1) (fun τ2 h2 => ⟨rfl, ?_⟩))
    have g : ∀ x, x ≠ 66 → x ≠ 67 → q_i τ2 x = q_i (q_undo τ) x := fun x n1 n2 => by rw [h2]; simp only [q_i_si, q_i_wi, n1, n2, if_false]
    have e67 : q_i τ2 67 = q_i τ 68 := by rw [h2]; show q_i (q_undo τ) 68 = _; exact w 68 (by decide)
    have e68 : q_i τ2 68 = q_i τ 68 := (g 68 (by decide) (by decide)).trans (w 68 (by decide))
    have e66 : q_i τ2 66 = upd (q_i τ 66) 2 0 := by rw [h2, ← w 66 (by decide)]; rfl
    have e0 : q_i τ2 0 = upd (q_i τ 0) 2 0 := (g 0 (by decide) (by decide)).trans rfl
    have e39 : q_i τ2 39 = q_i τ 39 := (g 39 (by decide) (by decide)).trans (w 39 (by decide))
    have e40 : q_i τ2 40 = q_i τ 40 := (g 40 (by decide) (by decide)).trans (w 40 (by decide))
    have e41 : q_i τ2 41 = q_i τ 41 := (g 41 (by decide) (by decide)).trans (w 41 (by decide))
    have e45 : q_i τ2 45 = q_i τ 45 := (g 45 (by decide) (by decide)).trans (w 45 (by decide))
    have e69 : q_i τ2 69 = q_i τ 69 := (g 69 (by decide) (by decide)).trans (w 69 (by decide))
    have f2 : q_i τ2 0 2 = 0 := by rw [e0]; rfl
    refine ⟨by rw [e67]; exact b1, ?_, Or.inl f2, by rw [e66, f2]; rfl, fun z => absurd (f2.symm.trans z) (by decide), by rw [e66, e0]; exact ⟨s3, s4, s5⟩, by rw [e66, e39]; exact a7, by rw [e66, e45]; exact a8, by rw [e66, e40, e41, e69]; exact a9, fun k hk => by rw [e67, e68]; exact ⟨(a10.1 k hk).2, (a10.1 k hk).2⟩, by rw [g 65 (by decide) (by decide), w 65 (by decide)]; exact a10.2⟩
    rw [e67]
    refine b2.move (fun x hx => ?_) ⟨?_, ?_⟩
    · rw [g (1 + x) (by omega) (by omega)]
      show (q_si τ 0 2 0).1 (k_sw2 (1 + x)) = _
      have e : k_sw2 (1 + x) = 20 + x := by unfold k_sw2; rw [if_pos (by omega)]; omega
      rw [e]
      show q_i (q_si τ 0 2 0) (20 + x) = _
      rw [q_i_si, if_neg (by omega)]
    · rw [h2]; rfl
    · rw [h2]; rfl
