/-! rules by which a tree is reduced: numbers as nI -/
theorem ex_nI {c n : Nat} {P : Nat → Prop} (hc : c < n) (hn : n ≤ 2 ^ 31) : (∃ j : Nat, nI c = nI j ∧ j < n ∧ P j) ↔ P c := by
  constructor
  · rintro ⟨j, e, hj, h⟩
    rw [nI_eq (by omega) (by omega)] at e
    rw [e]
    exact h
  · exact fun h => ⟨c, rfl, hc, h⟩
theorem ev_lt {a b : Nat} (ha : a < 2 ^ 31) (hb : b < 2 ^ 31) : (nI a < nI b) = (a < b) := propext (nI_ltI ha hb)
theorem ev_le {a b : Nat} (ha : a < 2 ^ 31) (hb : b < 2 ^ 31) : (nI a ≤ nI b) = (a ≤ b) := propext (nI_leI ha hb)
theorem ev_eq {a b : Nat} (ha : a < 2 ^ 31) (hb : b < 2 ^ 31) : (nI a = nI b) = (a = b) := propext (nI_eq ha hb)
theorem ev_lt0 {a : Nat} (ha : a < 2 ^ 31) : (nI a < 0) = False := eq_false (nI_pos ha)
theorem ev_le0 {a : Nat} (ha : a < 2 ^ 31) : (0 ≤ nI a) = True := eq_true (nI_pos' ha)
theorem ev_0a (a : Nat) : (0 : Int32) + nI a = nI a := by rw [show (0 : Int32) = nI 0 from rfl, nI_add, Nat.zero_add]
theorem ev_lit (a c : Nat) : nI a + nI c = nI (a + c) := nI_add a c
theorem s_X4_has_t {τ : kT} {c n : Nat} {post : Int32 → kT → Prop} (hm : q_i τ 2 5 = nI n) (hn : n < 2 ^ 31) (hc : c < n) (h : post 1 τ) : T_X4_has (nI c) τ post := by
  unfold T_X4_has; exact s_rng_t hm hn hc h
theorem s_X4_has_f {τ : kT} {a : Int32} {n : Nat} {post : Int32 → kT → Prop} (hm : q_i τ 2 5 = nI n) (hn : n < 2 ^ 31) (hc : ¬ inn a n) (h : post 0 τ) : T_X4_has a τ post := by
  unfold T_X4_has; exact s_rng_f hm hn hc h
theorem s_X5_has_t {τ : kT} {c n : Nat} {post : Int32 → kT → Prop} (hm : q_i τ 9 5 = nI n) (hn : n < 2 ^ 31) (hc : c < n) (h : post 1 τ) : T_X5_has (nI c) τ post := by
  unfold T_X5_has; exact s_rng_t hm hn hc h
theorem s_X5_has_f {τ : kT} {a : Int32} {n : Nat} {post : Int32 → kT → Prop} (hm : q_i τ 9 5 = nI n) (hn : n < 2 ^ 31) (hc : ¬ inn a n) (h : post 0 τ) : T_X5_has a τ post := by
  unfold T_X5_has; exact s_rng_f hm hn hc h
theorem s_X0_has_t {τ : kT} {c n : Nat} {post : Int32 → kT → Prop} (hm : q_i τ 15 3 = nI n) (hn : n < 2 ^ 31) (hc : c < n) (h : post 1 τ) : T_X0_has (nI c) τ post := by
  unfold T_X0_has; exact s_rng_t hm hn hc h
theorem s_X0_has_f {τ : kT} {a : Int32} {n : Nat} {post : Int32 → kT → Prop} (hm : q_i τ 15 3 = nI n) (hn : n < 2 ^ 31) (hc : ¬ inn a n) (h : post 0 τ) : T_X0_has a τ post := by
  unfold T_X0_has; exact s_rng_f hm hn hc h
theorem s_X6_hasDoor_t {τ : kT} {c n : Nat} {post : Int32 → kT → Prop} (hm : q_i τ 1 4 = nI n) (hn : n < 2 ^ 31) (hc : c < n) (h : post 1 τ) : T_X6_hasDoor (nI c) τ post := by
  unfold T_X6_hasDoor; exact s_rng_t hm hn hc h
theorem s_X6_hasDoor_f {τ : kT} {a : Int32} {n : Nat} {post : Int32 → kT → Prop} (hm : q_i τ 1 4 = nI n) (hn : n < 2 ^ 31) (hc : ¬ inn a n) (h : post 0 τ) : T_X6_hasDoor a τ post := by
  unfold T_X6_hasDoor; exact s_rng_f hm hn hc h
/-- the reference's own ranges: a number of 0 to n - 1 -/
theorem s_inN_t {τ : kT} {c n : Nat} {x : Int32} {post : Int32 → kT → Prop} (hm : x = nI n) (hn : n < 2 ^ 30) (hc : c < n) (h : post 1 τ) : T_X11_in ((nI c).toInt64) (0 : Int64) ((x - (1 : Int32)).toInt64) τ post := by
  subst hm
  refine s_in_t ?_ h
  rw [i_64, i_64, i_m1 hn, nI_toInt (by omega)]
  show (0 : Int) ≤ _ ∧ _
  omega
theorem s_inN_f {τ : kT} {a : Int32} {n : Nat} {x : Int32} {post : Int32 → kT → Prop} (hm : x = nI n) (hn : n < 2 ^ 30) (hc : ¬ inn a n) (h : post 0 τ) : T_X11_in (a.toInt64) (0 : Int64) ((x - (1 : Int32)).toInt64) τ post := by
  subst hm
  refine s_in_f ?_ h
  rw [inn_iff (by omega)] at hc
  rw [i_64, i_64, i_m1 hn]
  show ¬ ((0 : Int) ≤ _ ∧ _)
  omega
theorem s_X11_isCylinder_t {τ : kT} {c n : Nat} {post : Int32 → kT → Prop} (hm : q_i τ 67 8522 = nI n) (hn : n < 2 ^ 30) (hc : c < n) (h : post 1 τ) : T_X11_isCylinder (nI c) τ post := by
  unfold T_X11_isCylinder; exact s_inN_t hm hn hc ⟨Or.inr rfl, h⟩
theorem s_X11_isCylinder_f {τ : kT} {a : Int32} {n : Nat} {post : Int32 → kT → Prop} (hm : q_i τ 67 8522 = nI n) (hn : n < 2 ^ 30) (hc : ¬ inn a n) (h : post 0 τ) : T_X11_isCylinder a τ post := by
  unfold T_X11_isCylinder; exact s_inN_f hm hn hc ⟨Or.inl rfl, h⟩
theorem s_X11_isKey_t {τ : kT} {c n : Nat} {post : Int32 → kT → Prop} (hm : q_i τ 67 8523 = nI n) (hn : n < 2 ^ 30) (hc : c < n) (h : post 1 τ) : T_X11_isKey (nI c) τ post := by
  unfold T_X11_isKey; exact s_inN_t hm hn hc ⟨Or.inr rfl, h⟩
theorem s_X11_isKey_f {τ : kT} {a : Int32} {n : Nat} {post : Int32 → kT → Prop} (hm : q_i τ 67 8523 = nI n) (hn : n < 2 ^ 30) (hc : ¬ inn a n) (h : post 0 τ) : T_X11_isKey a τ post := by
  unfold T_X11_isKey; exact s_inN_f hm hn hc ⟨Or.inl rfl, h⟩
theorem s_X11_isDoor_t {τ : kT} {c n : Nat} {post : Int32 → kT → Prop} (hm : q_i τ 67 8525 = nI n) (hn : n < 2 ^ 30) (hc : c < n) (h : post 1 τ) : T_X11_isDoor (nI c) τ post := by
  unfold T_X11_isDoor; exact s_inN_t hm hn hc ⟨Or.inr rfl, h⟩
theorem s_X11_isDoor_f {τ : kT} {a : Int32} {n : Nat} {post : Int32 → kT → Prop} (hm : q_i τ 67 8525 = nI n) (hn : n < 2 ^ 30) (hc : ¬ inn a n) (h : post 0 τ) : T_X11_isDoor a τ post := by
  unfold T_X11_isDoor; exact s_inN_f hm hn hc ⟨Or.inl rfl, h⟩
/-! what J gives -/
theorem J.nc {τ : kT} (h : J τ) : ∃ n, n ≤ 100 ∧ q_i τ 2 5 = nI n ∧ q_i τ 67 8522 = nI n ∧ N (q_i τ 67) 8522 = n := ⟨_, h.1.1.2, (h.2.1.1 (0, 3, 0) ⟨by decide, rfl⟩).trans h.1.1.1, h.1.1.1, rfl⟩
theorem J.nk {τ : kT} (h : J τ) : ∃ n, n ≤ 100 ∧ q_i τ 9 5 = nI n ∧ q_i τ 67 8523 = nI n ∧ N (q_i τ 67) 8523 = n := ⟨_, h.1.2.1.2, (h.2.1.1 (0, 5, 0) ⟨by decide, rfl⟩).trans h.1.2.1.1, h.1.2.1.1, rfl⟩
theorem J.nb {τ : kT} (h : J τ) : ∃ n, n ≤ 12 ∧ q_i τ 15 3 = nI n ∧ q_i τ 67 8524 = nI n ∧ N (q_i τ 67) 8524 = n := ⟨_, h.1.2.2.1.2, (h.2.1.1 (0, 6, 0) ⟨by decide, rfl⟩).trans h.1.2.2.1.1, h.1.2.2.1.1, rfl⟩
theorem J.nd {τ : kT} (h : J τ) : ∃ n, n ≤ 40 ∧ q_i τ 1 4 = nI n ∧ q_i τ 67 8525 = nI n ∧ N (q_i τ 67) 8525 = n := ⟨_, h.1.2.2.2.1.2, (h.2.1.1 (0, 0, 0) ⟨by decide, rfl⟩).trans h.1.2.2.2.1.1, h.1.2.2.2.1.1, rfl⟩
theorem J.np {τ : kT} (h : J τ) : ∃ n, n ≤ 40 ∧ q_i τ 1 5 = nI n ∧ q_i τ 67 8526 = nI n ∧ N (q_i τ 67) 8526 = n := ⟨_, h.1.2.2.2.2.1.2, (h.2.1.1 (0, 1, 0) ⟨by decide, rfl⟩).trans h.1.2.2.2.2.1.1, h.1.2.2.2.2.1.1, rfl⟩
theorem J.bl {τ : kT} (h : J τ) : ∃ n, n ≤ 1000 ∧ q_i τ 1 6 = nI n ∧ q_i τ 67 8527 = nI n ∧ N (q_i τ 67) 8527 = n := ⟨_, h.1.2.2.2.2.2.1.2, (h.2.1.1 (0, 2, 0) ⟨by decide, rfl⟩).trans h.1.2.2.2.2.2.1.1, h.1.2.2.2.2.2.1.1, rfl⟩
/-! the plain reads -/
theorem k_at_op : K_at J := fun τ h => ⟨h.2.2.2.2.2.2.1.symm, h⟩
theorem k_trials_op : K_trials J := fun τ h => ⟨h.2.2.2.2.2.2.2.1.symm, h⟩
theorem k_finding_op : K_finding J := fun τ h => ⟨h.2.2.2.2.2.1.2.1.symm, h⟩
theorem k_kind_op : K_kind J := by
  intro a τ hJ
  obtain ⟨n, hn, e1, e2, e3⟩ := hJ.nc
  by_cases h : inn a n
  · obtain ⟨c, hc, rfl⟩ := h
    refine s_X4_has_t e1 (by omega) hc ?_
    refine br_f (by decide) ⟨c, rfl, by omega, ?_⟩
    refine s_X11_isCylinder_t e2 (by omega) hc ?_
    refine br_f (by decide) ⟨c, ev_0a c, by omega, hJ.2.1.1 (1, c, 0) ⟨by rw [e3]; exact hc, rfl⟩, hJ⟩
  · refine s_X4_has_f e1 (by omega) h ?_
    refine br_t rfl ?_
    refine s_X11_isCylinder_f e2 (by omega) h ?_
    exact br_t rfl ⟨rfl, hJ⟩
