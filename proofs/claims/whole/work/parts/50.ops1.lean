theorem bn_t {c A B : Prop} (h : ¬ c) (a : A) : (¬ c → A) ∧ (c → B) := ⟨fun _ => a, fun q => absurd q h⟩
theorem bn_f {c A B : Prop} (h : c) (b : B) : (¬ c → A) ∧ (c → B) := ⟨fun q => absurd h q, fun _ => b⟩
theorem sl_d_mono {s s2 : Nat → Int32} (n22 : N s2 8522 = N s 8522) (n23 : N s2 8523 = N s 8523) (n24 : N s2 8524 = N s 8524) (n25 : N s2 8525 = N s 8525) (n28 : N s2 8528 = N s 8528) (m1 : ∀ c, c < N s 8522 → N s2 (100 + c) = N s (100 + c)) (m2 : ∀ c, c < N s 8523 → N s2 (2200 + c) = N s (2200 + c)) (m3 : ∀ c, c < N s 8524 → N s2 (4212 + c) = N s (4212 + c)) : ∀ e, sl_d s2 e → sl_d s e := by
  rintro ⟨t, c, j⟩ h
  match t, h with
  | 0, h =>
    have h : c < 7 ∧ j = 0 := h
    exact h
  | 1, h =>
    have h : c < N s2 8522 ∧ j = 0 := h
    rw [n22] at h
    exact h
  | 2, h =>
    have h : c < N s2 8522 ∧ j = 0 := h
    rw [n22] at h
    exact h
  | 3, h =>
    have h : c < N s2 8522 ∧ j = 0 := h
    rw [n22] at h
    exact h
  | 4, h =>
    have h : c < N s2 8522 ∧ j = 0 := h
    rw [n22] at h
    exact h
  | 7, h =>
    have h : c < N s2 8523 ∧ j = 0 := h
    rw [n23] at h
    exact h
  | 8, h =>
    have h : c < N s2 8523 ∧ j = 0 := h
    rw [n23] at h
    exact h
  | 10, h =>
    have h : c < N s2 8524 ∧ j = 0 := h
    rw [n24] at h
    exact h
  | 11, h =>
    have h : c < N s2 8524 ∧ j = 0 := h
    rw [n24] at h
    exact h
  | 13, h =>
    have h : c < N s2 8525 ∧ j = 0 := h
    rw [n25] at h
    exact h
  | 5, h =>
    have h : c < N s2 8522 ∧ j < N s2 (100 + c) := h
    rw [n22] at h
    rw [m1 c h.1] at h
    exact h
  | 9, h =>
    have h : c < N s2 8523 ∧ j < N s2 (2200 + c) := h
    rw [n23] at h
    rw [m2 c h.1] at h
    exact h
  | 12, h =>
    have h : c < N s2 8524 ∧ j < N s2 (4212 + c) := h
    rw [n24] at h
    rw [m3 c h.1] at h
    exact h
  | 6, h =>
    have h : c = 0 ∧ j < N s2 8528 := h
    rw [n28] at h
    exact h
  | t + 14, h => exact h.elim
theorem sl_d_upd {s : Nat → Int32} (hb : bndS s) {i : Nat} {v : Int32} (h1 : i ≠ 8522 ∧ i ≠ 8523 ∧ i ≠ 8524 ∧ i ≠ 8525 ∧ i ≠ 8528) (h2 : ∀ c, c < 100 → i ≠ 100 + c ∧ i ≠ 2200 + c) (h3 : ∀ c, c < 12 → i ≠ 4212 + c) : ∀ e, sl_d (upd s i v) e → sl_d s e := by
  obtain ⟨b1, b2, b3, b4, b5, b6, b7, b8⟩ := hb
  have hN : ∀ j, j ≠ i → N (upd s i v) j = N s j := fun j q => by unfold N; rw [upd_at, if_neg q]
  exact sl_d_mono (hN _ (Ne.symm h1.1)) (hN _ (Ne.symm h1.2.1)) (hN _ (Ne.symm h1.2.2.1)) (hN _ (Ne.symm h1.2.2.2.1)) (hN _ (Ne.symm h1.2.2.2.2)) (fun c hc => hN _ (Ne.symm (h2 c (by omega)).1)) (fun c hc => hN _ (Ne.symm (h2 c (by omega)).2)) (fun c hc => hN _ (Ne.symm (h3 c (by omega))))
theorem N_upd {s : Nat → Int32} {i j : Nat} {v : Int32} (h : j ≠ i) : N (upd s i v) j = N s j := by unfold N; rw [upd_at, if_neg h]
theorem ev_3 (a b c p : Nat) : nI a + nI b * nI c + nI p = nI (a + b * c + p) := by rw [pk_mul, nI_add, nI_add]
theorem remP.hz {τ τr : kT} (hJ : J τ) (h : remP τ τr) (x k : Nat) (v : Int32) (hx : x < 66) : ∀ j, 8530 ≤ j → q_i (q_si τr x k v) 67 j = 0 ∧ q_i (q_si τr x k v) 68 j = 0 := fun j hj => by
  rw [q_i_si, if_neg (by omega), q_i_si, if_neg (by omega), h.1 67 (by decide) (by decide), h.1 68 (by decide) (by decide)]
  exact hJ.hz j hj
theorem remP.st {τ τr : kT} (h : remP τ τr) (x k : Nat) (v : Int32) (hx : x < 66) : q_i (q_si τr x k v) 67 = q_i τ 67 := by
  rw [q_i_si, if_neg (by omega), h.1 67 (by decide) (by decide)]
/-! reads -/
theorem k_told_op : K_told J := by
  intro a τ hJ
  have hC := hJ.2.1.1
  obtain ⟨-, -, -, -, -, ⟨s3, s4, s5⟩, -, -, ⟨t1, -⟩, -⟩ := id hJ
  unfold T_X10_told T_X11_told
  have key : ∀ (n : Nat) (x : Int32), n ≤ 9 → a = nI n → (∀ P : Int32 → kT → Prop, P x τ → True) → a.toInt = n := fun n x hn e _ => by rw [e, nI_toInt (by omega)]
  have t : ∀ n : Nat, n < 10 → (nI n).toInt = (n : Int) := fun n h => nI_toInt (by omega)
  refine ⟨fun h => ⟨fun _ => ⟨rfl, hJ⟩, ?_⟩, ?_⟩
  · refine ⟨?_, ?_, ?_, ?_, ?_, ?_, ?_, ?_, ?_, ?_⟩
    all_goals (intro e; rw [e, t _ (by decide)] at h; omega)
  · have no : ∀ m n : Nat, m < 10 → n < 10 → m ≠ n → ¬ nI m = nI n := fun m n hm hn h q => h ((nI_eq (by omega) (by omega)).mp q)
    have nr : ∀ n : Nat, n < 10 → ¬ ((nI n).toInt < 0 ∨ 9 < (nI n).toInt) := fun n hn => by rw [t n hn]; omega
    refine ⟨?_, ?_, ?_, ?_, ?_, ?_, ?_, ?_, ?_, ?_⟩
    all_goals (
      intro e
      subst e
      refine ⟨fun q => absurd q (nr _ (by decide)), ?_⟩
      refine ⟨?_, ?_, ?_, ?_, ?_, ?_, ?_, ?_, ?_, ?_⟩ <;> intro q <;> first
        | exact absurd q (no _ _ (by decide) (by decide) (by decide))
        | exact ⟨hC (0, 3, 0) ⟨by decide, rfl⟩, hJ⟩
        | exact ⟨hC (0, 5, 0) ⟨by decide, rfl⟩, hJ⟩
        | exact ⟨hC (0, 6, 0) ⟨by decide, rfl⟩, hJ⟩
        | exact ⟨hC (0, 0, 0) ⟨by decide, rfl⟩, hJ⟩
        | exact ⟨hC (0, 1, 0) ⟨by decide, rfl⟩, hJ⟩
        | exact ⟨hC (0, 2, 0) ⟨by decide, rfl⟩, hJ⟩
        | exact ⟨hC (0, 4, 0) ⟨by decide, rfl⟩, hJ⟩
        | exact ⟨s3.symm, hJ⟩
        | exact ⟨s5.symm, hJ⟩
        | exact ⟨t1.symm, hJ⟩)
theorem k_holder_op : K_holder J := by
  intro a τ hJ
  obtain ⟨n, hn, e1, e2, e3⟩ := hJ.nk
  by_cases h : inn a n
  · obtain ⟨c, hc, rfl⟩ := h
    refine s_X5_has_t e1 (by omega) hc ?_
    refine br_f (by decide) ⟨c, rfl, by omega, ?_⟩
    refine s_X11_isKey_t e2 (by omega) hc ?_
    refine br_f (by decide) ⟨4100 + c, nI_add 4100 c, by omega, hJ.2.1.1 (8, c, 0) ⟨by rw [e3]; exact hc, rfl⟩, hJ⟩
  · refine s_X5_has_f e1 (by omega) h ?_
    refine br_t rfl ?_
    refine s_X11_isKey_f e2 (by omega) h ?_
    exact br_t rfl ⟨rfl, hJ⟩
theorem k_length_op : K_length J := by
  intro a τ hJ
  obtain ⟨n, hn, e1, e2, e3⟩ := hJ.nk
  by_cases h : inn a n
  · obtain ⟨c, hc, rfl⟩ := h
    refine s_X5_has_t e1 (by omega) hc ?_
    refine br_f (by decide) ⟨c, rfl, by omega, ?_⟩
    refine s_X11_isKey_t e2 (by omega) hc ?_
    refine br_f (by decide) ⟨2200 + c, nI_add 2200 c, by omega, hJ.2.1.1 (7, c, 0) ⟨by rw [e3]; exact hc, rfl⟩, hJ⟩
  · refine s_X5_has_f e1 (by omega) h ?_
    refine br_t rfl ?_
    refine s_X11_isKey_f e2 (by omega) h ?_
    exact br_t rfl ⟨rfl, hJ⟩
/-! one slot is written -/
theorem k_person_op : K_person J := by
  intro τ hJ
  obtain ⟨np, hnp, e1, e2, e3⟩ := hJ.np
  unfold T_X10_person T_X11_person
  by_cases h : np < 40
  · refine br_t (by rw [e1]; exact (nI_ltI (by omega) (by decide)).mpr h) ?_
    refine s_remember hJ (fun τr hr => ?_)
    intro τ1 h1
    have er : q_i τr 1 = q_i τ 1 := hr.1 1 (by decide) (by decide)
    have hv : q_i τr 1 5 + 1 = nI (np + 1) := by rw [er, e1]; exact nI_1 np
    rw [hv] at h1
    have e67 : q_i τ1 67 = q_i τ 67 := by rw [h1]; exact hr.st 1 5 _ (by decide)
    refine bn_t (by rw [e67, e2]; exact fun q => absurd ((nI_eq (a := np) (b := 40) (by omega) (by decide)).mp q) (by omega)) ?_
    refine s_change (by rw [h1]; exact hr.hz hJ 1 5 _ (by decide)) ?_
    intro τ2 h2
    have hv2 : q_i (q_si (q_wi τ1 68 (q_i τ1 67)) 66 2 1) 67 8526 + 1 = nI (np + 1) := by
      show q_i τ1 67 8526 + 1 = _
      rw [e67, e2]; exact nI_1 np
    rw [hv2] at h2
    refine ⟨?_, J_one hJ hr (0, 1, 0) (nI (np + 1)) ⟨by decide, rfl⟩ (inv_person hJ.1 (np + 1) (by omega)) (fun e he _ => sl_d_upd hJ.1.bnd (by decide) (fun c hc => ⟨by show 8526 ≠ _; omega, by show 8526 ≠ _; omega⟩) (fun c hc => by show 8526 ≠ _; omega) e he) (N_upd (by decide)) false h1 h2⟩
    rw [h1, h2]
    rfl
  · refine br_f (by rw [e1]; exact fun q => h ((nI_ltI (by omega) (by decide)).mp q)) ?_
    refine bn_f (by rw [e2, show np = 40 by omega]; rfl) ⟨rfl, hJ⟩
theorem k_hold {τ τr : kT} (hJ : J τ) (hr : remP τ τr) {k : Nat} (hk : k < N (q_i τ 67) 8523) {v : Int32} (hv : z_or v (· < N (q_i τ 67) 8526) ∨ v = -6) {τ1 τ2 : kT} (h1 : τ1 = q_si τr 12 k v) (h2 : τ2 = q_si (q_si (q_wi τ1 68 (q_i τ1 67)) 66 2 1) 67 (4100 + k) v) : J τ2 := by
  have hb := hJ.1.bnd
  have : k < 100 := by have := hb.2.1; omega
  exact J_one hJ hr (8, k, 0) v ⟨this, rfl⟩ (inv_hold hJ.1 k v hk hv) (fun e he _ => sl_d_upd hb ⟨by show 4100 + k ≠ _; omega, by show 4100 + k ≠ _; omega, by show 4100 + k ≠ _; omega, by show 4100 + k ≠ _; omega, by show 4100 + k ≠ _; omega⟩ (fun c hc => ⟨by show 4100 + k ≠ _; omega, by show 4100 + k ≠ _; omega⟩) (fun c hc => by show 4100 + k ≠ _; omega) e he) (N_upd (by show 8523 ≠ 4100 + k; omega)) false h1 h2
theorem k_bringBack_op : K_bringBack J := by
  intro a τ hJ
  obtain ⟨n, hn, e1, e2, e3⟩ := hJ.nk
  by_cases h : inn a n
  · obtain ⟨c, hc, rfl⟩ := h
    have hh : q_i τ 12 c = q_i τ 67 (4100 + c) := hJ.2.1.1 (8, c, 0) ⟨by rw [e3]; exact hc, rfl⟩
    refine s_X5_has_t e1 (by omega) hc ?_
    refine bn_t (by decide) ⟨c, rfl, by omega, ?_⟩
    intro v5 h5
    refine ⟨fun q => s_remember hJ (fun τr hr => ⟨c, rfl, by omega, fun τ1 h1 => ?_⟩), fun q => ?_⟩
    · have e67 : q_i τ1 67 = q_i τ 67 := by rw [h1]; exact hr.st 12 c _ (by decide)
      refine s_X11_isKey_t (by rw [e67]; exact e2) (by omega) hc ?_
      refine bn_t (by decide) ⟨4100 + c, nI_add 4100 c, by omega, fun v6 h6 => ?_⟩
      have e6 : v6 = v5 := by rw [h6, h5, e67, hh]
      rw [e6]
      refine br_t q (s_change (by rw [h1]; exact hr.hz hJ 12 c _ (by decide)) ⟨4100 + c, nI_add 4100 c, by omega, fun τ2 h2 => ⟨rfl, k_hold hJ hr (by rw [e3]; exact hc) (Or.inl (Or.inl rfl)) h1 h2⟩⟩)
    · refine s_X11_isKey_t e2 (by omega) hc ?_
      refine bn_t (by decide) ⟨4100 + c, nI_add 4100 c, by omega, fun v6 h6 => ?_⟩
      have e6 : v6 = v5 := by rw [h6, h5, hh]
      rw [e6]
      exact br_f q ⟨rfl, hJ⟩
  · refine s_X5_has_f e1 (by omega) h ?_
    refine bn_f rfl ?_
    refine s_X11_isKey_f e2 (by omega) h ?_
    exact bn_f rfl ⟨rfl, hJ⟩
theorem k_lose_op : K_lose J := by
  intro a τ hJ
  obtain ⟨n, hn, e1, e2, e3⟩ := hJ.nk
  by_cases h : inn a n
  · obtain ⟨c, hc, rfl⟩ := h
    have hh : q_i τ 12 c = q_i τ 67 (4100 + c) := hJ.2.1.1 (8, c, 0) ⟨by rw [e3]; exact hc, rfl⟩
    refine s_X5_has_t e1 (by omega) hc ?_
    refine bn_t (by decide) ⟨c, rfl, by omega, ?_⟩
    intro v5 h5
    refine ⟨fun q => s_remember hJ (fun τr hr => ⟨c, rfl, by omega, fun τ1 h1 => ?_⟩), fun q => ?_⟩
    · have e67 : q_i τ1 67 = q_i τ 67 := by rw [h1]; exact hr.st 12 c _ (by decide)
      refine s_X11_isKey_t (by rw [e67]; exact e2) (by omega) hc ?_
      refine bn_t (by decide) ⟨4100 + c, nI_add 4100 c, by omega, fun v6 h6 => ?_⟩
      have e6 : v6 = v5 := by rw [h6, h5, e67, hh]
      rw [e6]
      refine bn_t q (s_change (by rw [h1]; exact hr.hz hJ 12 c _ (by decide)) ⟨4100 + c, nI_add 4100 c, by omega, fun τ2 h2 => ⟨rfl, k_hold hJ hr (by rw [e3]; exact hc) (Or.inr rfl) h1 h2⟩⟩)
    · refine s_X11_isKey_t e2 (by omega) hc ?_
      refine bn_t (by decide) ⟨4100 + c, nI_add 4100 c, by omega, fun v6 h6 => ?_⟩
      have e6 : v6 = v5 := by rw [h6, h5, hh]
      rw [e6]
      exact bn_f q ⟨rfl, hJ⟩
  · refine s_X5_has_f e1 (by omega) h ?_
    refine bn_f rfl ?_
    refine s_X11_isKey_f e2 (by omega) h ?_
    exact bn_f rfl ⟨rfl, hJ⟩
theorem k_found_op : K_found J := by
  intro a τ hJ
  obtain ⟨n, hn, e1, e2, e3⟩ := hJ.nk
  by_cases h : inn a n
  · obtain ⟨c, hc, rfl⟩ := h
    have hh : q_i τ 12 c = q_i τ 67 (4100 + c) := hJ.2.1.1 (8, c, 0) ⟨by rw [e3]; exact hc, rfl⟩
    refine s_X5_has_t e1 (by omega) hc ?_
    refine bn_t (by decide) ⟨c, rfl, by omega, ?_⟩
    refine ⟨fun q => s_remember hJ (fun τr hr => ⟨c, rfl, by omega, fun τ1 h1 => ?_⟩), fun q => ?_⟩
    · have e67 : q_i τ1 67 = q_i τ 67 := by rw [h1]; exact hr.st 12 c _ (by decide)
      refine s_X11_isKey_t (by rw [e67]; exact e2) (by omega) hc ?_
      refine bn_t (by decide) ⟨4100 + c, nI_add 4100 c, by omega, ?_⟩
      refine br_t (by rw [e67, ← hh]; exact q) (s_change (by rw [h1]; exact hr.hz hJ 12 c _ (by decide)) ⟨4100 + c, nI_add 4100 c, by omega, fun τ2 h2 => ⟨rfl, k_hold hJ hr (by rw [e3]; exact hc) (Or.inl (Or.inl rfl)) h1 h2⟩⟩)
    · refine s_X11_isKey_t e2 (by omega) hc ?_
      refine bn_t (by decide) ⟨4100 + c, nI_add 4100 c, by omega, ?_⟩
      exact br_f (by rw [← hh]; exact q) ⟨rfl, hJ⟩
  · refine s_X5_has_f e1 (by omega) h ?_
    refine bn_f rfl ?_
    refine s_X11_isKey_f e2 (by omega) h ?_
    exact bn_f rfl ⟨rfl, hJ⟩
