def remP (τ τ2 : kT) : Prop := (∀ x, x ≠ 0 → ¬ (20 ≤ x ∧ x < 39) → q_i τ2 x = q_i τ x) ∧ (∀ x, ¬ (20 ≤ x ∧ x < 39) → q_l τ2 x = q_l τ x) ∧ q_i τ2 0 = upd (q_i τ 0) 2 1 ∧ Corr τ2 20 (q_i τ 67)
theorem cpy0 {α : Type} (f g : Nat → α) (n k : Nat) (h : k < n) : va_cpy f g 0 0 n k = f k := by
  unfold va_cpy
  rw [if_pos ⟨by omega, by omega⟩]
  congr 1
  omega
def outI (S : List Nat) (τ τ2 : kT) : Prop := (∀ x, x ∉ S → q_i τ2 x = q_i τ x) ∧ (∀ x, x ∉ S → q_l τ2 x = q_l τ x)
set_option maxRecDepth 100000 in
theorem s_become4 {τ : kT} {nc : Nat} (hnc : nc ≤ 100) (c1 : q_i τ 2 5 = nI nc) {post : kT → Prop} (h : ∀ τ2, outI [21, 22, 23, 24, 25, 26, 27] τ τ2 → q_i τ2 21 5 = q_i τ 2 5 → q_i τ2 21 6 = q_i τ 2 6 → q_i τ2 22 = va_cpy (q_i τ 3) (q_i τ 22) 0 0 nc → q_i τ2 23 = va_cpy (q_i τ 4) (q_i τ 23) 0 0 nc → q_i τ2 24 = va_cpy (q_i τ 5) (q_i τ 24) 0 0 (nc * 18) → q_i τ2 25 = va_cpy (q_i τ 6) (q_i τ 25) 0 0 nc → q_i τ2 26 = va_cpy (q_i τ 7) (q_i τ 26) 0 0 nc → q_i τ2 27 = va_cpy (q_i τ 8) (q_i τ 27) 0 0 18 → post τ2) : T_X4_become_21 τ post := by
  have m18 : nI nc * 18 = nI (nc * 18) := pk_mul nc 18
  unfold T_X4_become_21
  intro τ1 h1; subst h1
  refine ⟨0, 0, nc, rfl, rfl, c1, by omega, by omega, ?_⟩
  intro τ2 h2; subst h2
  refine ⟨0, 0, nc, rfl, rfl, c1, by omega, by omega, ?_⟩
  intro τ2 h2; subst h2
  refine ⟨0, 0, nc * 18, rfl, rfl, by rw [← m18, ← c1]; rfl, by omega, by omega, ?_⟩
  intro τ2 h2; subst h2
  refine ⟨0, 0, nc, rfl, rfl, c1, by omega, by omega, ?_⟩
  intro τ2 h2; subst h2
  refine ⟨0, 0, nc, rfl, rfl, c1, by omega, by omega, ?_⟩
  intro τ2 h2; subst h2
  intro τ2 h2; subst h2
  refine ⟨0, 0, 18, rfl, rfl, rfl, by omega, by omega, ?_⟩
  intro τ2 h2; subst h2
  refine h _ ⟨fun x hx => ?_, fun x hx => rfl⟩ rfl rfl rfl rfl rfl rfl rfl rfl
  simp only [List.mem_cons, List.not_mem_nil, or_false, not_or] at hx
  simp only [q_i_wi, q_i_si, hx, if_false]
set_option maxRecDepth 100000 in
theorem s_become5 {τ : kT} {nk : Nat} (hnk : nk ≤ 100) (k1 : q_i τ 9 5 = nI nk) {post : kT → Prop} (h : ∀ τ2, outI [28, 29, 30, 31, 32, 33] τ τ2 → q_i τ2 28 5 = q_i τ 9 5 → q_i τ2 29 = va_cpy (q_i τ 10) (q_i τ 29) 0 0 nk → q_i τ2 30 = va_cpy (q_i τ 11) (q_i τ 30) 0 0 (nk * 18) → q_i τ2 31 = va_cpy (q_i τ 12) (q_i τ 31) 0 0 nk → q_l τ2 32 = va_cpy (q_l τ 13) (q_l τ 32) 0 0 nk → q_l τ2 33 = va_cpy (q_l τ 14) (q_l τ 33) 0 0 nk → post τ2) : T_X5_become_28 τ post := by
  have k18 : nI nk * 18 = nI (nk * 18) := pk_mul nk 18
  unfold T_X5_become_28
  intro τ2 h2; subst h2
  refine ⟨0, 0, nk, rfl, rfl, k1, by omega, by omega, ?_⟩
  intro τ2 h2; subst h2
  refine ⟨0, 0, nk * 18, rfl, rfl, by rw [← k18, ← k1]; rfl, by omega, by omega, ?_⟩
  intro τ2 h2; subst h2
  refine ⟨0, 0, nk, rfl, rfl, k1, by omega, by omega, ?_⟩
  intro τ2 h2; subst h2
  refine ⟨0, 0, nk, rfl, rfl, k1, by omega, by omega, ?_⟩
  intro τ2 h2; subst h2
  refine ⟨0, 0, nk, rfl, rfl, k1, by omega, by omega, ?_⟩
  intro τ2 h2; subst h2
  refine h _ ⟨fun x hx => ?_, fun x hx => ?_⟩ rfl rfl rfl rfl rfl rfl
  · simp only [List.mem_cons, List.not_mem_nil, or_false, not_or] at hx
    simp only [q_i_wi, q_i_si, q_i_wl, hx, if_false]
  · simp only [List.mem_cons, List.not_mem_nil, or_false, not_or] at hx
    simp only [q_l_wi, q_l_si, q_l_wl, hx, if_false]
set_option maxRecDepth 100000 in
theorem s_become0 {τ : kT} {nb : Nat} (hnb : nb ≤ 12) (b1 : q_i τ 15 3 = nI nb) {post : kT → Prop} (h : ∀ τ2, outI [34, 35, 36, 37] τ τ2 → q_i τ2 34 3 = q_i τ 15 3 → q_i τ2 35 = va_cpy (q_i τ 16) (q_i τ 35) 0 0 nb → q_i τ2 36 = va_cpy (q_i τ 17) (q_i τ 36) 0 0 nb → q_i τ2 37 = va_cpy (q_i τ 18) (q_i τ 37) 0 0 (nb * 20) → post τ2) : T_X0_become_34 τ post := by
  have b20 : nI nb * 20 = nI (nb * 20) := pk_mul nb 20
  unfold T_X0_become_34
  intro τ2 h2; subst h2
  refine ⟨0, 0, nb, rfl, rfl, b1, by omega, by omega, ?_⟩
  intro τ2 h2; subst h2
  refine ⟨0, 0, nb, rfl, rfl, b1, by omega, by omega, ?_⟩
  intro τ2 h2; subst h2
  refine ⟨0, 0, nb * 20, rfl, rfl, by rw [← b20, ← b1]; rfl, by omega, by omega, ?_⟩
  intro τ2 h2; subst h2
  refine h _ ⟨fun x hx => ?_, fun x hx => rfl⟩ rfl rfl rfl rfl
  simp only [List.mem_cons, List.not_mem_nil, or_false, not_or] at hx
  simp only [q_i_wi, q_i_si, q_i_wl, hx, if_false]
/-- what remember() needs of a state -/
def JB (τ : kT) : Prop := InvS (q_i τ 67) ∧ Corr τ 1 (q_i τ 67) ∧ True
theorem JB.nc {τ : kT} (h : JB τ) : ∃ n, n ≤ 100 ∧ q_i τ 2 5 = nI n ∧ q_i τ 67 8522 = nI n ∧ N (q_i τ 67) 8522 = n := ⟨_, h.1.1.2, (h.2.1.1 (0, 3, 0) ⟨by decide, rfl⟩).trans h.1.1.1, h.1.1.1, rfl⟩
theorem JB.nk {τ : kT} (h : JB τ) : ∃ n, n ≤ 100 ∧ q_i τ 9 5 = nI n ∧ q_i τ 67 8523 = nI n ∧ N (q_i τ 67) 8523 = n := ⟨_, h.1.2.1.2, (h.2.1.1 (0, 5, 0) ⟨by decide, rfl⟩).trans h.1.2.1.1, h.1.2.1.1, rfl⟩
theorem JB.nb {τ : kT} (h : JB τ) : ∃ n, n ≤ 12 ∧ q_i τ 15 3 = nI n ∧ q_i τ 67 8524 = nI n ∧ N (q_i τ 67) 8524 = n := ⟨_, h.1.2.2.1.2, (h.2.1.1 (0, 6, 0) ⟨by decide, rfl⟩).trans h.1.2.2.1.1, h.1.2.2.1.1, rfl⟩
theorem JB.nd {τ : kT} (h : JB τ) : ∃ n, n ≤ 40 ∧ q_i τ 1 4 = nI n ∧ q_i τ 67 8525 = nI n ∧ N (q_i τ 67) 8525 = n := ⟨_, h.1.2.2.2.1.2, (h.2.1.1 (0, 0, 0) ⟨by decide, rfl⟩).trans h.1.2.2.2.1.1, h.1.2.2.2.1.1, rfl⟩
set_option maxRecDepth 100000 in
theorem s_rememberB {τ : kT} (hJ : JB τ) {post : kT → Prop} (h : ∀ τ2, remP τ τ2 → post τ2) : T_X10_remember τ post := by
  obtain ⟨nc, hnc, c1, c2, c3⟩ := hJ.nc
  obtain ⟨nk, hnk, k1, k2, k3⟩ := hJ.nk
  obtain ⟨nb, hnb, b1, b2, b3⟩ := hJ.nb
  obtain ⟨nd, hnd, d1, d2, d3⟩ := hJ.nd
  unfold T_X10_remember T_X6_become_20
  refine s_become4 hnc c1 (fun τa oa a1 a2 a3 a4 a5 a6 a7 a8 => ?_)
  have ia : ∀ x, x ∉ [21, 22, 23, 24, 25, 26, 27] → q_i τa x = q_i τ x := oa.1
  have la : ∀ x, x ∉ [21, 22, 23, 24, 25, 26, 27] → q_l τa x = q_l τ x := oa.2
  refine s_become5 hnk (by rw [ia 9 (by decide)]; exact k1) (fun τb ob f1 f2 f3 f4 f5 f6 => ?_)
  have ib : ∀ x, x ∉ [28, 29, 30, 31, 32, 33] → q_i τb x = q_i τa x := ob.1
  have lb : ∀ x, x ∉ [28, 29, 30, 31, 32, 33] → q_l τb x = q_l τa x := ob.2
  refine s_become0 hnb (by rw [ib 15 (by decide), ia 15 (by decide)]; exact b1) (fun τc oc g1 g2 g3 g4 => ?_)
  have ic : ∀ x, x ∉ [34, 35, 36, 37] → q_i τc x = q_i τb x := oc.1
  have lc : ∀ x, x ∉ [34, 35, 36, 37] → q_l τc x = q_l τb x := oc.2
  have z : ∀ x, x ∉ [21, 22, 23, 24, 25, 26, 27] → x ∉ [28, 29, 30, 31, 32, 33] → x ∉ [34, 35, 36, 37] → q_i τc x = q_i τ x := fun x p q r => (ic x r).trans ((ib x q).trans (ia x p))
  have zl : ∀ x, x ∉ [21, 22, 23, 24, 25, 26, 27] → x ∉ [28, 29, 30, 31, 32, 33] → x ∉ [34, 35, 36, 37] → q_l τc x = q_l τ x := fun x p q r => (lc x r).trans ((lb x q).trans (la x p))
  refine ⟨0, 0, nd, rfl, rfl, by rw [z 1 (by decide) (by decide) (by decide)]; exact d1, by omega, by omega, ?_⟩
  intro τd hd; 
  intro τe he
  intro τf hf
  intro τg hg
  intro τh hh
  have ed : ∀ x, x ≠ 38 → q_i τd x = q_i τc x := fun x hx => by rw [hd, q_i_wi, if_neg hx]
  have e38 : q_i τd 38 = va_cpy (q_i τ 19) (q_i τ 38) 0 0 nd := by rw [hd, q_i_wi, if_pos rfl, z 19 (by decide) (by decide) (by decide), z 38 (by decide) (by decide) (by decide)]
  have eh : ∀ x, x ≠ 0 → x ≠ 20 → q_i τh x = q_i τd x := fun x h0 h20 => by rw [hh, hg, hf, he]; simp only [q_i_si, h0, h20, if_false]
  have lh : ∀ x, q_l τh x = q_l τc x := fun x => by rw [hh, hg, hf, he, hd]; rfl
  have e1d : q_i τd 1 = q_i τ 1 := by rw [ed 1 (by decide), z 1 (by decide) (by decide) (by decide)]
  have h20 : q_i τh 20 4 = q_i τ 1 4 ∧ q_i τh 20 5 = q_i τ 1 5 ∧ q_i τh 20 6 = q_i τ 1 6 := by
    rw [hh, hg, hf, he, ← e1d]
    exact ⟨rfl, rfl, rfl⟩
  have h00 : q_i τh 0 = upd (q_i τ 0) 2 1 := by
    rw [hh, q_i_si, if_pos rfl]
    congr 1
    rw [hg, hf, he]
    show q_i τd 0 = _
    rw [ed 0 (by decide), z 0 (by decide) (by decide) (by decide)]
  apply h
  have go : ∀ x, x ≠ 0 → x ≠ 20 → x ≠ 38 → q_i τh x = q_i τc x := fun x p q r => (eh x p q).trans (ed x r)
  refine ⟨fun x hx hx2 => ?_, fun x hx => ?_, h00, fun e he => ?_, fun k d hk hd => ?_⟩
  · rw [go x hx (by omega) (by omega)]
    exact z x (by simp; omega) (by simp; omega) (by simp; omega)
  · rw [lh x]
    exact zl x (by simp; omega) (by simp; omega) (by simp; omega)
  · have hC := hJ.2.1.1 e he
    refine Eq.trans ?_ hC
    obtain ⟨t, c, j⟩ := e
    match t, he with
    | 0, he =>
      obtain ⟨hc, rfl⟩ := he
      match c, hc with
      | 0, _ => exact h20.1
      | 1, _ => exact h20.2.1
      | 2, _ => exact h20.2.2
      | 3, _ => exact (congrFun (go 21 (by decide) (by decide) (by decide)) 5).trans ((congrFun ((ic 21 (by decide)).trans (ib 21 (by decide))) 5).trans a1)
      | 4, _ => exact (congrFun (go 21 (by decide) (by decide) (by decide)) 6).trans ((congrFun ((ic 21 (by decide)).trans (ib 21 (by decide))) 6).trans a2)
      | 5, _ => exact (congrFun (go 28 (by decide) (by decide) (by decide)) 5).trans ((congrFun (ic 28 (by decide)) 5).trans (f1.trans (congrFun (ia 9 (by decide)) 5)))
      | 6, _ => exact (congrFun (go 34 (by decide) (by decide) (by decide)) 3).trans (g1.trans (congrFun ((ib 15 (by decide)).trans (ia 15 (by decide))) 3))
    | 1, he =>
      show q_i τh 22 (c) = q_i τ 3 (c)
      rw [go 22 (by decide) (by decide) (by decide), ic 22 (by decide), ib 22 (by decide), a3]
      rw [cpy0 _ _ _ _ (by have := he.1; omega)]
    | 2, he =>
      show q_i τh 23 (c) = q_i τ 4 (c)
      rw [go 23 (by decide) (by decide) (by decide), ic 23 (by decide), ib 23 (by decide), a4]
      rw [cpy0 _ _ _ _ (by have := he.1; omega)]
    | 3, he =>
      show q_i τh 25 (c) = q_i τ 6 (c)
      rw [go 25 (by decide) (by decide) (by decide), ic 25 (by decide), ib 25 (by decide), a6]
      rw [cpy0 _ _ _ _ (by have := he.1; omega)]
    | 4, he =>
      show q_i τh 26 (c) = q_i τ 7 (c)
      rw [go 26 (by decide) (by decide) (by decide), ic 26 (by decide), ib 26 (by decide), a7]
      rw [cpy0 _ _ _ _ (by have := he.1; omega)]
    | 5, he =>
      obtain ⟨p1, p2⟩ := he
      have : N (q_i τ 67) (100 + c) ≤ 18 := by
        rcases (hJ.1.2.2.2.2.2.2.2.1 c p1).2.1 with q | ⟨r, hr, q⟩
        · unfold N; rw [q]; decide
        · unfold N; rw [q, nI_clamp (by omega)]; exact hr
      show q_i τh 24 (c * 18 + j) = q_i τ 5 (c * 18 + j)
      rw [go 24 (by decide) (by decide) (by decide), ic 24 (by decide), ib 24 (by decide), a5]
      rw [cpy0 _ _ _ _ (by omega)]
    | 6, he =>
      obtain ⟨p1, p2⟩ := he
      have : N (q_i τ 67) 8528 ≤ 18 := by
        rcases hJ.1.2.2.2.2.2.2.1 with q | ⟨r, hr, q⟩
        · unfold N; rw [q]; decide
        · unfold N; rw [q, nI_clamp (by omega)]; exact hr
      show q_i τh 27 (j) = q_i τ 8 (j)
      rw [go 27 (by decide) (by decide) (by decide), ic 27 (by decide), ib 27 (by decide), a8]
      rw [cpy0 _ _ _ _ (by omega)]
    | 7, he =>
      show q_i τh 29 (c) = q_i τ 10 (c)
      rw [go 29 (by decide) (by decide) (by decide), ic 29 (by decide), f2]
      rw [cpy0 _ _ _ _ (by have := he.1; omega)]
      rw [ia 10 (by decide)]
    | 8, he =>
      show q_i τh 31 (c) = q_i τ 12 (c)
      rw [go 31 (by decide) (by decide) (by decide), ic 31 (by decide), f4]
      rw [cpy0 _ _ _ _ (by have := he.1; omega)]
      rw [ia 12 (by decide)]
    | 9, he =>
      obtain ⟨p1, p2⟩ := he
      have := (hJ.1.2.2.2.2.2.2.2.2.2.2.1 c p1).1.2
      show q_i τh 30 (c * 18 + j) = q_i τ 11 (c * 18 + j)
      rw [go 30 (by decide) (by decide) (by decide), ic 30 (by decide), f3]
      rw [cpy0 _ _ _ _ (by omega)]
      rw [ia 11 (by decide)]
    | 10, he =>
      show q_i τh 35 (c) = q_i τ 16 (c)
      rw [go 35 (by decide) (by decide) (by decide), g2]
      rw [cpy0 _ _ _ _ (by have := he.1; omega)]
      rw [ib 16 (by decide), ia 16 (by decide)]
    | 11, he =>
      show q_i τh 36 (c) = q_i τ 17 (c)
      rw [go 36 (by decide) (by decide) (by decide), g3]
      rw [cpy0 _ _ _ _ (by have := he.1; omega)]
      rw [ib 17 (by decide), ia 17 (by decide)]
    | 12, he =>
      obtain ⟨p1, p2⟩ := he
      have := (hJ.1.2.2.2.2.2.2.2.2.2.2.2.2.2.1 c p1).2.2
      show q_i τh 37 (c * 20 + j) = q_i τ 18 (c * 20 + j)
      rw [go 37 (by decide) (by decide) (by decide), g4]
      rw [cpy0 _ _ _ _ (by omega)]
      rw [ib 18 (by decide), ia 18 (by decide)]
    | 13, he =>
      show q_i τh 38 (c) = q_i τ 19 (c)
      rw [eh 38 (by decide) (by decide), e38]
      rw [cpy0 _ _ _ _ (by have := he.1; omega)]
    | t + 14, he => exact he.elim
  · have hC := hJ.2.1.2 k d hk hd
    refine Eq.trans ?_ hC
    have e1 : q_l τh 32 k = q_l τ 13 k := by
      rw [lh, lc 32 (by decide), f5, cpy0 _ _ _ _ (by omega), la 13 (by decide)]
    have e2 : q_l τh 33 k = q_l τ 14 k := by
      rw [lh, lc 33 (by decide), f6, cpy0 _ _ _ _ (by omega), la 14 (by decide)]
    show wishOf (q_l τh 32 k) (q_l τh 33 k) d = wishOf (q_l τ 13 k) (q_l τ 14 k) d
    rw [e1, e2]
theorem s_remember {τ : kT} (hJ : J τ) {post : kT → Prop} (h : ∀ τ2, remP τ τ2 → post τ2) : T_X10_remember τ post := s_rememberB ⟨hJ.1, hJ.2.1, trivial⟩ h
