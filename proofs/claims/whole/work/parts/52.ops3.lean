/-! a cylinder's kind and row -/
theorem J.kd {τ : kT} (h : J τ) {c : Nat} (hc : c < N (q_i τ 67) 8522) : ∃ k, k ≤ 4 ∧ q_i τ 3 c = nI k ∧ q_i τ 67 c = nI k ∧ N (q_i τ 67) c = k := ⟨_, (h.1.2.2.2.2.2.2.2.1 c hc).1.2, (h.2.1.1 (1, c, 0) ⟨hc, rfl⟩).trans (h.1.2.2.2.2.2.2.2.1 c hc).1.1, (h.1.2.2.2.2.2.2.2.1 c hc).1.1, rfl⟩
theorem J.row {τ : kT} (h : J τ) {c : Nat} (hc : c < N (q_i τ 67) 8522) : (q_i τ 4 c = -1 ∧ q_i τ 67 (100 + c) = -1 ∧ q_i τ 67 c = 2) ∨ ∃ r, r ≤ 18 ∧ q_i τ 4 c = nI r ∧ q_i τ 67 (100 + c) = nI r ∧ N (q_i τ 67) (100 + c) = r := by
  have e : q_i τ 4 c = q_i τ 67 (100 + c) := h.2.1.1 (2, c, 0) ⟨hc, rfl⟩
  obtain ⟨-, p2, p3, -⟩ := h.1.2.2.2.2.2.2.2.1 c hc
  rcases p2 with q | ⟨r, hr, q⟩
  · exact Or.inl ⟨e.trans q, q, p3 q⟩
  · have hr : r ≤ 18 := hr
    refine Or.inr ⟨r, hr, e.trans q, q, ?_⟩
    unfold N
    rw [q, nI_clamp (by omega)]
theorem s_X4_isDouble_t {τ : kT} {c n : Nat} {post : Int32 → kT → Prop} (hm : q_i τ 2 5 = nI n) (hn : n ≤ 100) (hc : c < n) (hk : q_i τ 3 c = 4) (h : post 1 τ) : T_X4_isDouble (nI c) τ post := by
  unfold T_X4_isDouble
  exact s_X4_has_t hm (by omega) hc (br_f (by decide) ⟨c, rfl, by omega, bn_f hk h⟩)
theorem s_X4_isDouble_f {τ : kT} {c n : Nat} {post : Int32 → kT → Prop} (hm : q_i τ 2 5 = nI n) (hn : n ≤ 100) (hc : c < n) (hk : q_i τ 3 c ≠ 4) (h : post 0 τ) : T_X4_isDouble (nI c) τ post := by
  unfold T_X4_isDouble
  exact s_X4_has_t hm (by omega) hc (br_f (by decide) ⟨c, rfl, by omega, bn_t hk h⟩)
theorem s_X4_isOut_t {τ : kT} {c n : Nat} {post : Int32 → kT → Prop} (hm : q_i τ 2 5 = nI n) (hn : n ≤ 100) (hc : c < n) (hk : q_i τ 3 c = 2) (hr : q_i τ 4 c = -1) (h : post 1 τ) : T_X4_isOut (nI c) τ post := by
  unfold T_X4_isOut
  exact s_X4_has_t hm (by omega) hc (br_f (by decide) ⟨c, rfl, by omega, bn_f hk ⟨c, rfl, by omega, bn_f hr h⟩⟩)
theorem s_X4_isOut_f {τ : kT} {c n : Nat} {post : Int32 → kT → Prop} (hm : q_i τ 2 5 = nI n) (hn : n ≤ 100) (hc : c < n) (hr : q_i τ 4 c ≠ -1) (h : post 0 τ) : T_X4_isOut (nI c) τ post := by
  unfold T_X4_isOut
  refine s_X4_has_t hm (by omega) hc (br_f (by decide) ⟨c, rfl, by omega, fun _ => h, fun _ => ⟨c, rfl, by omega, bn_t hr h⟩⟩)
theorem s_rowFinding {τ : kT} {c n : Nat} {post : Int32 → kT → Prop} (hm : q_i τ 2 5 = nI n) (hn : n ≤ 100) (hc : c < n) (hr0 : q_i τ 4 c = -1 → q_i τ 3 c = 2) (h1 : q_i τ 3 c = 4 → post (-13) τ) (h2 : q_i τ 3 c ≠ 4 → q_i τ 4 c = -1 → post (-11) τ) (h3 : q_i τ 3 c ≠ 4 → q_i τ 4 c ≠ -1 → post 0 τ) : T_X4_rowFinding (nI c) τ post := by
  unfold T_X4_rowFinding
  by_cases k4 : q_i τ 3 c = 4
  · exact s_X4_isDouble_t hm hn hc k4 (br_f (by decide) (h1 k4))
  · refine s_X4_isDouble_f hm hn hc k4 (br_t rfl ?_)
    by_cases r : q_i τ 4 c = -1
    · exact s_X4_isOut_t hm hn hc (hr0 r) r (br_f (by decide) (h2 k4 r))
    · exact s_X4_isOut_f hm hn hc r (br_t rfl (h3 k4 r))
theorem k_chambers_op : K_chambers J := by
  intro a τ hJ
  obtain ⟨n, hn, e1, e2, e3⟩ := hJ.nc
  unfold T_X10_chambers T_X11_chambers
  by_cases h : inn a n
  · obtain ⟨c, hc, rfl⟩ := h
    have hcN : c < N (q_i τ 67) 8522 := by rw [e3]; exact hc
    obtain ⟨k, hk, k1, k2, k3⟩ := hJ.kd hcN
    have er : q_i τ 4 c = q_i τ 67 (100 + c) := hJ.2.1.1 (2, c, 0) ⟨hcN, rfl⟩
    have hrow := hJ.row hcN
    refine s_X4_has_t e1 (by omega) hc (bn_t (by decide) ?_)
    refine s_rowFinding e1 hn hc (fun q => ?_) (fun q => ?_) (fun q r => ?_) (fun q r => ?_)
    · rcases hrow with ⟨-, -, z⟩ | ⟨r, hr, z, -⟩
      · rw [k1, ← k2]; exact z
      · rw [z] at q
        exact absurd (congrArg Int32.toInt q) (by rw [nI_toInt (by omega)]; show (r : Int) ≠ -1; omega)
    · refine br_f (by decide) (s_settle_met (f := 3) ⟨by decide, by decide⟩ ?_)
      refine s_X11_isCylinder_t e2 (by omega) hc (bn_t (by decide) ⟨100 + c, nI_add 100 c, by omega, fun v5 h5 => ⟨c, ev_0a c, by omega, ?_⟩⟩)
      refine bn_f (by show q_i τ 67 c = 4; rw [k2, ← k1]; exact q) (s_met ⟨by decide, e_met hJ 3⟩)
    · refine br_f (by decide) (s_settle_met (f := 1) ⟨by decide, by decide⟩ ?_)
      refine s_X11_isCylinder_t e2 (by omega) hc (bn_t (by decide) ⟨100 + c, nI_add 100 c, by omega, fun v5 h5 => ⟨c, ev_0a c, by omega, ?_⟩⟩)
      refine bn_t (by show ¬ q_i τ 67 c = 4; rw [k2, ← k1]; exact q) (br_f ?_ (s_met ⟨by decide, e_met hJ 1⟩))
      rw [h5]
      show ¬ (0 : Int32) ≤ q_i τ 67 (100 + c)
      rw [← er, r]
      decide
    · rcases hrow with ⟨z, -, -⟩ | ⟨m, hm, z1, z2, -⟩
      · exact absurd z r
      · refine br_t rfl ⟨c, rfl, by omega, ?_⟩
        rw [z1]
        refine s_settle_n (by omega) ?_
        refine s_X11_isCylinder_t e2 (by omega) hc (bn_t (by decide) ⟨100 + c, nI_add 100 c, by omega, fun v5 h5 => ⟨c, ev_0a c, by omega, ?_⟩⟩)
        have h5 : v5 = nI m := by rw [h5]; exact z2
        refine bn_t (by show ¬ q_i τ 67 c = 4; rw [k2, ← k1]; exact q) (br_t (by rw [h5]; exact nI_pos' (by omega)) (s_well ⟨h5.symm, e_well hJ⟩))
  · refine s_X4_has_f e1 (by omega) h (bn_f rfl ?_)
    exact s_X11_isCylinder_f e2 (by omega) h (bn_f rfl ⟨rfl, hJ⟩)
theorem k_trace_op : K_trace J := by
  intro a τ hJ
  obtain ⟨-, -, -, -, -, -, -, -, ⟨t1, t2, t3, t4⟩, -⟩ := id hJ
  generalize ht : N (q_i τ 40) 1 = t at t2 t3 t4
  have e66 : q_i τ 66 9 = nI t := t1.trans t2
  unfold T_X10_trace T_X7_entryAt T_X11_trace
  have hcase : ∀ {r : Int32}, (∀ n, (n = t ∧ t < 40) ∨ (n = 40 ∧ 40 ≤ t) → (¬ inn a n → r = -1) ∧ (∀ j, j < n → a = nI j → r = q_i τ 41 j)) → (((40 : Int32) ≤ (q_i τ 66 9) → (T_X11_in ((a).toInt64) (0 : Int64) ((((40 : Int32) - (1 : Int32))).toInt64) τ (fun r2 τ3 => ((r2 = 0 → r = (-1 : Int32) ∧ J τ3) ∧ (¬ r2 = 0 → (∃ j5 : Nat, a = nI j5 ∧ j5 < 40 ∧ (r = (q_i τ3 69 j5) ∧ J τ3))))))) ∧ (¬ (40 : Int32) ≤ (q_i τ 66 9) → (T_X11_in ((a).toInt64) (0 : Int64) ((((q_i τ 66 9) - (1 : Int32))).toInt64) τ (fun r6 τ7 => ((r6 = 0 → r = (-1 : Int32) ∧ J τ7) ∧ (¬ r6 = 0 → (∃ j9 : Nat, a = nI j9 ∧ j9 < 40 ∧ (r = (q_i τ7 69 j9) ∧ J τ7)))))))) := by
    intro r hr
    by_cases h40 : 40 ≤ t
    · refine br_t (by rw [e66]; exact (nI_leI (a := 40) (by decide) (by omega)).mpr h40) ?_
      obtain ⟨g1, g2⟩ := hr 40 (Or.inr ⟨rfl, h40⟩)
      by_cases hi : inn a 40
      · obtain ⟨j, hj, rfl⟩ := hi
        refine s_inN_t (n := 40) rfl (by omega) hj (br_f (by decide) ⟨j, rfl, hj, ?_, hJ⟩)
        rw [t4 j hj (by omega)]
        exact g2 j hj rfl
      · exact s_inN_f (n := 40) rfl (by omega) hi (br_t rfl ⟨g1 hi, hJ⟩)
    · refine br_f (by rw [e66]; exact fun q => h40 ((nI_leI (a := 40) (by decide) (by omega)).mp q)) ?_
      obtain ⟨g1, g2⟩ := hr t (Or.inl ⟨rfl, by omega⟩)
      by_cases hi : inn a t
      · obtain ⟨j, hj, rfl⟩ := hi
        refine s_inN_t (n := t) e66 (by omega) hj (br_f (by decide) ⟨j, rfl, by omega, ?_, hJ⟩)
        rw [t4 j (by omega) hj]
        exact g2 j hj rfl
      · exact s_inN_f (n := t) e66 (by omega) hi (br_t rfl ⟨g1 hi, hJ⟩)
  have bad : ∀ n, (n = t ∧ t < 40) ∨ (n = 40 ∧ 40 ≤ t) → ∀ j, j < n → a = nI j → ¬ a < 0 ∧ ¬ nI t ≤ a ∧ ¬ (40 : Int32) ≤ a := by
    intro n hn j hj e
    subst e
    exact ⟨nI_pos (by omega), nI_ge (by omega) (by omega), nI_ge (b := 40) (by omega) (by decide)⟩
  rw [t2]
  refine ⟨fun q => hcase fun n hn => ⟨fun _ => rfl, fun j hj e => absurd q (bad n hn j hj e).1⟩, fun q => ⟨fun q2 => hcase fun n hn => ⟨fun _ => rfl, fun j hj e => absurd q2 (bad n hn j hj e).2.1⟩, fun q2 => ⟨fun q3 => hcase fun n hn => ⟨fun _ => rfl, fun j hj e => absurd q3 (bad n hn j hj e).2.2⟩, fun q3 => ?_⟩⟩⟩
  have h4 : inn a 40 := by
    rw [inn_iff (by decide)]
    rw [i_lt] at q
    rw [i_le] at q3
    have z0 : (0 : Int32).toInt = 0 := rfl
    have z4 : (40 : Int32).toInt = 40 := rfl
    omega
  obtain ⟨j, hj, rfl⟩ := h4
  have hjt : j < t := by
    rcases Nat.lt_or_ge j t with z | z
    · exact z
    · exact absurd (nI_le z (by omega)) q2
  refine ⟨j, rfl, hj, hcase fun n hn => ⟨fun z => absurd ⟨j, by omega, rfl⟩ z, fun j2 hj2 e => ?_⟩⟩
  rw [(nI_eq (by omega) (by omega)).mp e]
theorem k_fit_op : K_fit J := by
  intro a b τ hJ
  obtain ⟨nd, hnd, d1, d2, d3⟩ := hJ.nd
  obtain ⟨nc, hnc, c1, c2, c3⟩ := hJ.nc
  unfold T_X10_fit T_X11_fit
  by_cases h : inn a nd
  · obtain ⟨d, hd, rfl⟩ := h
    have hv : q_i τ 19 d = q_i τ 67 (4464 + d) := hJ.2.1.1 (13, d, 0) ⟨by rw [d3]; exact hd, rfl⟩
    refine s_X6_hasDoor_t d1 (by omega) hd (br_f (by decide) ?_)
    have fin : ∀ (τr : kT), remP τ τr → z_or b (· < N (q_i τ 67) 8522) → ∀ τ1, τ1 = q_si τr 19 d b → q_i τr 19 d = q_i τ 67 (4464 + d) ∧ ∀ τ2, τ2 = q_si (q_si (q_wi τ1 68 (q_i τ1 67)) 66 2 1) 67 (4464 + d) b → J τ2 := by
      intro τr hr hz τ1 h1
      refine ⟨by rw [hr.1 19 (by decide) (by decide)]; exact hv, fun τ2 h2 => ?_⟩
      have hb := hJ.1.bnd
      exact J_one hJ hr (13, d, 0) b ⟨by omega, rfl⟩ (inv_fit hJ.1 d b (by rw [d3]; exact hd) hz) (fun e he _ => sl_d_upd hb ⟨by show 4464 + d ≠ _; omega, by show 4464 + d ≠ _; omega, by show 4464 + d ≠ _; omega, by show 4464 + d ≠ _; omega, by show 4464 + d ≠ _; omega⟩ (fun c hc => ⟨by show 4464 + d ≠ _; omega, by show 4464 + d ≠ _; omega⟩) (fun c hc => by show 4464 + d ≠ _; omega) e he) (N_upd (by show 8523 ≠ 4464 + d; omega)) false h1 h2
    by_cases hb1 : b = -1
    · subst hb1
      refine s_X4_hasOrNone_n (bn_t (by decide) (s_remember hJ (fun τr hr => ⟨d, rfl, by omega, fun v hv5 => ⟨d, rfl, by omega, fun τ1 h1 => ?_⟩⟩)))
      obtain ⟨f1, f2⟩ := fin τr hr (Or.inl rfl) τ1 h1
      have e67 : q_i τ1 67 = q_i τ 67 := by rw [h1]; exact hr.st 19 d _ (by decide)
      refine s_X11_isDoor_t (by rw [e67]; exact d2) (by omega) hd (br_f (by decide) (br_t rfl ?_))
      refine s_change (by rw [h1]; exact hr.hz hJ 19 d _ (by decide)) ⟨4464 + d, nI_add 4464 d, by omega, fun v8 h8 => ⟨4464 + d, nI_add 4464 d, by omega, fun τ2 h2 => ⟨?_, f2 τ2 h2⟩⟩⟩
      rw [hv5, h8, f1, ← e67]
      rfl
    · by_cases hbc : inn b nc
      · obtain ⟨x, hx, rfl⟩ := hbc
        refine s_X4_hasOrNone_t c1 (by omega) hx (bn_t (by decide) (s_remember hJ (fun τr hr => ⟨d, rfl, by omega, fun v hv5 => ⟨d, rfl, by omega, fun τ1 h1 => ?_⟩⟩)))
        obtain ⟨f1, f2⟩ := fin τr hr (Or.inr ⟨x, by show x < _; rw [c3]; exact hx, rfl⟩) τ1 h1
        have e67 : q_i τ1 67 = q_i τ 67 := by rw [h1]; exact hr.st 19 d _ (by decide)
        refine s_X11_isDoor_t (by rw [e67]; exact d2) (by omega) hd (br_f (by decide) (br_f hb1 ?_))
        refine s_X11_isCylinder_t (by rw [e67]; exact c2) (by omega) hx (bn_t (by decide) ?_)
        refine s_change (by rw [h1]; exact hr.hz hJ 19 d _ (by decide)) ⟨4464 + d, nI_add 4464 d, by omega, fun v8 h8 => ⟨4464 + d, nI_add 4464 d, by omega, fun τ2 h2 => ⟨?_, f2 τ2 h2⟩⟩⟩
        rw [hv5, h8, f1, ← e67]
        rfl
      · refine s_X4_hasOrNone_f c1 (by omega) hb1 hbc (bn_f rfl ?_)
        refine s_X11_isDoor_t d2 (by omega) hd (br_f (by decide) (br_f hb1 ?_))
        exact s_X11_isCylinder_f c2 (by omega) hbc (bn_f rfl ⟨rfl, hJ⟩)
  · refine s_X6_hasDoor_f d1 (by omega) h (br_t rfl ?_)
    exact s_X11_isDoor_f d2 (by omega) h (br_t rfl ⟨rfl, hJ⟩)
