/-! is: a kind is of a kind -/
def isP (a b : Int32) : Prop := a = b ∨ (b = 0 ∧ a ≠ 4) ∨ (b = 1 ∧ a = 2)
theorem s_is {a b : Int32} {τ : kT} {post : Int32 → kT → Prop} (h1 : isP a b → post 1 τ) (h0 : ¬ isP a b → post 0 τ) : T_X11_is a b τ post := by
  unfold T_X11_is
  refine ⟨fun q => h1 (Or.inl q), fun q => ⟨fun q2 => ⟨fun q3 => h0 ?_, fun q3 => ⟨fun q4 => h0 ?_, fun q4 => h1 (Or.inr (Or.inr ⟨q3, q4⟩))⟩⟩, fun q2 => ⟨fun q3 => h1 (Or.inr (Or.inl ⟨q2, q3⟩)), fun q3 => ⟨fun q4 => h0 ?_, fun q4 => ⟨fun q5 => h0 ?_, fun q5 => h1 (Or.inr (Or.inr ⟨q4, q5⟩))⟩⟩⟩⟩⟩
  · rintro (z | ⟨z, -⟩ | ⟨z, -⟩)
    · exact q z
    · exact q2 z
    · exact q3 z
  · rintro (z | ⟨z, -⟩ | ⟨-, z⟩)
    · exact q z
    · exact q2 z
    · exact q4 z
  · rintro (z | ⟨-, z⟩ | ⟨z, -⟩)
    · exact q z
    · exact z q3
    · exact q4 z
  · rintro (z | ⟨-, z⟩ | ⟨-, z⟩)
    · exact q z
    · exact z q3
    · exact q5 z
theorem s_isOf {τ : kT} {c n : Nat} {b : Int32} {post : Int32 → kT → Prop} (hm : q_i τ 2 5 = nI n) (hn : n ≤ 100) (hc : c < n) (h1 : isP (q_i τ 3 c) b → post 1 τ) (h0 : ¬ isP (q_i τ 3 c) b → post 0 τ) : T_X4_isOf (nI c) b τ post := by
  unfold T_X4_isOf
  refine s_X4_has_t hm (by omega) hc (bn_t (by decide) ⟨c, rfl, by omega, fun v hv => ?_⟩)
  subst hv
  have := s_is (a := q_i τ 3 c) (b := b) h1 h0
  unfold T_X11_is at this
  exact this
theorem J.cab {τ : kT} (h : J τ) {k : Nat} (hk : k < N (q_i τ 67) 8524) : q_i τ 16 k = q_i τ 67 (4200 + k) := h.2.1.1 (10, k, 0) ⟨hk, rfl⟩
theorem s_exchange {τ : kT} {c n i m : Nat} {b : Int32} {post : Int32 → kT → Prop} (hm : q_i τ 15 3 = nI n) (hn : n ≤ 12) (hc : c < n) (hl : q_i τ 17 c = nI m) (hm2 : m ≤ 20) (hi : i < m) (h : post (q_i τ 18 (c * 20 + i)) (q_si τ 18 (c * 20 + i) b)) : T_X0_exchange (nI c) (nI i) b τ post := by
  have ix : nI c * 20 + nI i = nI (c * 20 + i) := by rw [← nI_add, ← pk_mul]; rfl
  unfold T_X0_exchange T_X0_cylinderAt
  refine s_X0_hasPlace_t hm hn hc hl (by omega) hi (br_f (by decide) ⟨c * 20 + i, ix, by omega, ?_⟩)
  refine s_X0_hasPlace_t hm hn hc hl (by omega) hi (br_f (by decide) ⟨c * 20 + i, ix, by omega, fun τ7 h7 => ?_⟩)
  rw [h7]
  exact h
theorem r_put_ok {τ : kT} {c nb nc i m : Nat} {b : Int32} {post : Int32 → kT → Prop} (b2 : q_i τ 67 8524 = nI nb) (hnb : nb ≤ 12) (hc : c < nb) (c2 : q_i τ 67 8522 = nI nc) (hnc : nc ≤ 100) (l2 : q_i τ 67 (4212 + c) = nI m) (hm : m ≤ 20) (hi : i < m) (hb : b = -1 ∨ ∃ x, x < nc ∧ b = nI x ∧ isP (q_i τ 67 x) (q_i τ 67 (4200 + c))) (hz : ∀ k, 8530 ≤ k → q_i τ 67 k = 0 ∧ q_i τ 68 k = 0)
    (hp : post (q_i τ 67 (4224 + 20 * c + i)) (q_si (q_si (q_si (q_wi τ 68 (q_i τ 67)) 66 2 1) 67 (4224 + 20 * c + i) b) 66 4 0)) : T_X11_put (nI c) (nI i) b τ post := by
  have go : T_X11_change τ (fun τ11 => (∃ j12 : Nat, (((4224 : Int32) + ((20 : Int32) * nI c)) + nI i) = nI j12 ∧ j12 < 8530 ∧ (∀ v13 : Int32, v13 = (q_i τ11 67 j12) → (∃ j14 : Nat, (((4224 : Int32) + ((20 : Int32) * nI c)) + nI i) = nI j14 ∧ j14 < 8530 ∧ (∀ τ15 : kT, τ15 = q_si τ11 67 j14 b → (T_X11_well v13 τ15 (fun r16 τ17 => post r16 τ17))))))) := by
    refine s_change hz ⟨4224 + 20 * c + i, ev_3 4224 20 c i, by omega, fun v h => ⟨4224 + 20 * c + i, ev_3 4224 20 c i, by omega, fun τ2 h2 => ?_⟩⟩
    rw [h2, h]
    exact s_well hp
  unfold T_X11_put
  refine s_inN_t (n := nb) b2 (by omega) hc (br_f (by decide) ?_)
  rcases hb with rfl | ⟨x, hx, rfl, hP⟩
  · refine br_t rfl ⟨4212 + c, nI_add 4212 c, by omega, s_inN_t (n := m) l2 (by omega) hi (bn_t (by decide) (br_t rfl go))⟩
  · have n1 : ¬ nI x = -1 := fun q => absurd (congrArg Int32.toInt q) (by rw [nI_toInt (by omega)]; show (x : Int) ≠ -1; omega)
    refine br_f n1 (s_X11_isCylinder_t c2 (by omega) hx (bn_t (by decide) ⟨4212 + c, nI_add 4212 c, by omega, s_inN_t (n := m) l2 (by omega) hi (bn_t (by decide) (br_f n1 ⟨x, ev_0a x, by omega, 4200 + c, nI_add 4200 c, by omega, s_is (fun _ => bn_t (by decide) go) (fun q => absurd hP q)⟩))⟩))
theorem k_put_op : K_put J := by
  intro a p b τ hJ
  obtain ⟨nb, hnb, b1, b2, b3⟩ := hJ.nb
  obtain ⟨nc, hnc, c1, c2, c3⟩ := hJ.nc
  unfold T_X10_put T_X10_putInside
  by_cases h : inn a nb
  · obtain ⟨c, hc, rfl⟩ := h
    have hcN : c < N (q_i τ 67) 8524 := by rw [b3]; exact hc
    obtain ⟨m, hm, l1, l2, l3⟩ := hJ.wid hcN
    have hcab := hJ.cab hcN
    refine s_X0_has_t b1 (by omega) hc (br_f (by decide) ?_)
    by_cases hbad : b ≠ -1 ∧ ¬ inn b nc
    · refine s_X4_hasOrNone_f c1 (by omega) hbad.1 hbad.2 (bn_f rfl (s_settle_bad (Or.inl rfl) ?_))
      unfold T_X11_put
      refine s_inN_t (n := nb) b2 (by omega) hc (br_f (by decide) (br_f hbad.1 ?_))
      exact s_X11_isCylinder_f c2 (by omega) hbad.2 (bn_f rfl ⟨rfl, hJ⟩)
    have hb : b = -1 ∨ ∃ x, x < nc ∧ b = nI x := by
      by_cases q : b = -1
      · exact Or.inl q
      · by_cases q2 : inn b nc
        · exact Or.inr q2
        · exact absurd ⟨q, q2⟩ hbad
    have hon : ∀ {post : Int32 → kT → Prop}, post 1 τ → T_X4_hasOrNone b τ post := by
      intro post hp
      rcases hb with rfl | ⟨x, hx, rfl⟩
      · exact s_X4_hasOrNone_n hp
      · exact s_X4_hasOrNone_t c1 (by omega) hx hp
    refine hon (bn_t (by decide) ?_)
    by_cases hi : inn p m
    · obtain ⟨i, hi, rfl⟩ := hi
      refine s_X0_hasPlace_t b1 hnb hc l1 (by omega) hi (bn_t (by decide) ?_)
      have hv : q_i τ 18 (c * 20 + i) = q_i τ 67 (4224 + 20 * c + i) := hJ.2.1.1 (12, c, i) ⟨hcN, by rw [l3]; exact hi⟩
      have hs := hJ.1.2.2.2.2.2.2.2.2.2.2.2.2.2.2.1 c i hcN (by rw [l3]; exact hi)
      have go : (b = -1 ∨ ∃ x, x < nc ∧ b = nI x ∧ isP (q_i τ 67 x) (q_i τ 67 (4200 + c))) → T_X10_remember τ (fun τ12 => (T_X0_exchange (nI c) (nI i) b τ12 (fun r13 τ14 => T_X10_settle r13 τ14 (fun r3 τ4 => T_X11_put (nI c) (nI i) b τ4 (fun r2 τ2 => r3 = r2 ∧ J τ2))))) := by
        intro hq
        refine s_remember hJ (fun τr hr => ?_)
        have g : ∀ x, x < 19 → q_i τr (1 + x) = q_i τ (1 + x) := hr.now.1
        refine s_exchange (n := nb) (m := m) (by rw [g 14 (by decide)]; exact b1) hnb hc (by rw [g 16 (by decide)]; exact l1) hm hi ?_
        have e18 : q_i τr 18 (c * 20 + i) = q_i τ 67 (4224 + 20 * c + i) := by rw [g 17 (by decide)]; exact hv
        rw [e18]
        refine s_settle_ok (s_ok_z (by have := hJ.1.1.2; omega) hs) ?_
        obtain ⟨τ1, h1⟩ : ∃ τ1, τ1 = q_si (q_si τr 18 (c * 20 + i) b) 0 4 0 := ⟨_, rfl⟩
        rw [← h1]
        have e67 : q_i τ1 67 = q_i τ 67 := by rw [h1, q_i_si, if_neg (by decide)]; exact hr.st 18 _ _ (by decide)
        have hz1 : ∀ k, 8530 ≤ k → q_i τ1 67 k = 0 ∧ q_i τ1 68 k = 0 := fun k hk => by
          rw [h1]; exact hr.hz hJ 18 (c * 20 + i) b (by decide) k hk
        refine r_put_ok (nb := nb) (nc := nc) (m := m) (by rw [e67]; exact b2) hnb hc (by rw [e67]; exact c2) hnc (by rw [e67]; exact l2) hm hi (by rw [e67]; exact hq) hz1 ⟨by rw [e67], ?_⟩
        have hb9 := hJ.1.bnd
        have hzb : z_or b (· < N (q_i τ 67) 8522) := by
          rcases hq with q | ⟨x, hx, q, -⟩
          · exact Or.inl q
          · exact Or.inr ⟨x, by show x < _; rw [c3]; exact hx, q⟩
        exact J_one hJ hr (12, c, i) b ⟨by omega, by omega⟩ (inv_place hJ.1 c i b hcN (by rw [l3]; exact hi) hzb) (fun e he _ => sl_d_upd hb9 ⟨by show 4224 + 20 * c + i ≠ _; omega, by show 4224 + 20 * c + i ≠ _; omega, by show 4224 + 20 * c + i ≠ _; omega, by show 4224 + 20 * c + i ≠ _; omega, by show 4224 + 20 * c + i ≠ _; omega⟩ (fun c2 hc2 => ⟨by show 4224 + 20 * c + i ≠ _; omega, by show 4224 + 20 * c + i ≠ _; omega⟩) (fun c2 hc2 => by show 4224 + 20 * c + i ≠ _; omega) e he) (N_upd (by show 8523 ≠ 4224 + 20 * c + i; omega)) true h1 rfl
      rcases hb with rfl | ⟨x, hx, rfl⟩
      · exact br_t rfl (go (Or.inl rfl))
      · have n1 : ¬ nI x = -1 := fun q => absurd (congrArg Int32.toInt q) (by rw [nI_toInt (by omega)]; show (x : Int) ≠ -1; omega)
        have hxk : q_i τ 3 x = q_i τ 67 x := hJ.2.1.1 (1, x, 0) ⟨by rw [c3]; exact hx, rfl⟩
        refine br_f n1 ⟨c, rfl, by omega, s_isOf c1 hnc hx (fun q => bn_t (by decide) (go (Or.inr ⟨x, hx, rfl, ?_⟩))) (fun q => bn_f rfl (s_settle_met (f := 4) ⟨by decide, by decide⟩ ?_))⟩
        · rw [← hxk, ← hcab]; exact q
        · unfold T_X11_put
          refine s_inN_t (n := nb) b2 (by omega) hc (br_f (by decide) (br_f n1 ?_))
          refine s_X11_isCylinder_t c2 (by omega) hx (bn_t (by decide) ⟨4212 + c, nI_add 4212 c, by omega, s_inN_t (n := m) l2 (by omega) hi (bn_t (by decide) (br_f n1 ⟨x, ev_0a x, by omega, 4200 + c, nI_add 4200 c, by omega, s_is (fun z => absurd ?_ q) (fun _ => bn_f rfl (s_met ⟨by decide, e_met hJ 4⟩))⟩))⟩)
          rw [hxk, hcab]
          exact z
    · refine s_X0_hasPlace_f b1 hnb hc l1 (by omega) hi (bn_f rfl (s_settle_met (f := 2) ⟨by decide, by decide⟩ ?_))
      unfold T_X11_put
      refine s_inN_t (n := nb) b2 (by omega) hc (br_f (by decide) ?_)
      have e : T_X11_in (p.toInt64) (0 : Int64) ((q_i τ 67 (4212 + c) - (1 : Int32)).toInt64) = T_X11_in (p.toInt64) (0 : Int64) ((q_i τ 67 (4212 + c) - (1 : Int32)).toInt64) := rfl
      rcases hb with rfl | ⟨x, hx, rfl⟩
      · exact br_t rfl ⟨4212 + c, nI_add 4212 c, by omega, s_inN_f (n := m) l2 (by omega) hi (bn_f rfl (s_met ⟨by decide, e_met hJ 2⟩))⟩
      · have n1 : ¬ nI x = -1 := fun q => absurd (congrArg Int32.toInt q) (by rw [nI_toInt (by omega)]; show (x : Int) ≠ -1; omega)
        exact br_f n1 (s_X11_isCylinder_t c2 (by omega) hx (bn_t (by decide) ⟨4212 + c, nI_add 4212 c, by omega, s_inN_f (n := m) l2 (by omega) hi (bn_f rfl (s_met ⟨by decide, e_met hJ 2⟩))⟩))
  · refine s_X0_has_f b1 (by omega) h (br_t rfl ?_)
    refine s_settle_bad (Or.inl rfl) ?_
    unfold T_X11_put
    exact s_inN_f (n := nb) b2 (by omega) h (br_t rfl ⟨rfl, hJ⟩)
/-! lend: how many keys a person has -/
def cnt (f : Nat → Int32) (v : Int32) : Nat → Nat
  | 0 => 0
  | n + 1 => cnt f v n + (if f n = v then 1 else 0)
theorem cnt_le (f : Nat → Int32) (v : Int32) : ∀ n, cnt f v n ≤ n
  | 0 => Nat.le_refl _
  | n + 1 => by
    have := cnt_le f v n
    unfold cnt
    split <;> omega
theorem cnt_congr {f g : Nat → Int32} {v : Int32} : ∀ n, (∀ j, j < n → f j = g j) → cnt f v n = cnt g v n
  | 0, _ => rfl
  | n + 1, h => by
    unfold cnt
    rw [cnt_congr n (fun j hj => h j (by omega)), h n (by omega)]
theorem s_heldBy {τ : kT} {n : Nat} {v : Int32} {post : Int32 → kT → Prop} (hm : q_i τ 9 5 = nI n) (hn : n ≤ 100) (h : post (nI (cnt (q_i τ 12) v n)) τ) : T_X5_heldBy v τ post := by
  have key : ∀ m j, j + m = n → L_X5_heldBy_4 v (fun v8 v9 τ10 => post v8 τ10) post (m + 1) (nI (cnt (q_i τ 12) v j)) (nI j) τ := by
    intro m
    induction m with
    | zero =>
      intro j hj
      have hj : j = n := by omega
      subst hj
      unfold L_X5_heldBy_4
      exact br_t (by rw [hm]; exact nI_le (Nat.le_refl _) (by omega)) h
    | succ m ih =>
      intro j hj
      unfold L_X5_heldBy_4
      refine br_f (by rw [hm]; exact nI_ge (by omega) (by omega)) ⟨j, rfl, by omega, fun q v4 h4 => ?_, fun q v5 h5 v6 h6 => ?_⟩
      · have e : cnt (q_i τ 12) v (j + 1) = cnt (q_i τ 12) v j := by
          show cnt (q_i τ 12) v j + (if q_i τ 12 j = v then 1 else 0) = _
          rw [if_neg q]
          rfl
        rw [h4, ← e, show nI j + 1 = nI (j + 1) from nI_1 j]
        exact ih (j + 1) (by omega)
      · have e : cnt (q_i τ 12) v (j + 1) = cnt (q_i τ 12) v j + 1 := by
          show cnt (q_i τ 12) v j + (if q_i τ 12 j = v then 1 else 0) = _
          rw [if_pos q]
        rw [h5, h6, show nI j + 1 = nI (j + 1) from nI_1 j, nI_1, ← e]
        exact ih (j + 1) (by omega)
  exact ⟨n + 1, key n 0 (by omega)⟩
theorem s_lend_loop {τ : kT} {n : Nat} {a v : Int32} {post : Int32 → kT → Prop} (hm : q_i τ 67 8523 = nI n) (hn : n ≤ 100) (h : post (nI (cnt (fun j => q_i τ 67 (4100 + j)) v n)) τ) : ∃ m, L_X11_lend_68 a v (fun v21 v22 τ23 => post v21 τ23) post m (0 : Int32) (0 : Int32) τ := by
  have key : ∀ m j, j + m = n → L_X11_lend_68 a v (fun v21 v22 τ23 => post v21 τ23) post (m + 1) (nI (cnt (fun j => q_i τ 67 (4100 + j)) v j)) (nI j) τ := by
    intro m
    induction m with
    | zero =>
      intro j hj
      have hj : j = n := by omega
      subst hj
      unfold L_X11_lend_68
      exact br_t (by rw [hm]; exact nI_le (Nat.le_refl _) (by omega)) h
    | succ m ih =>
      intro j hj
      unfold L_X11_lend_68
      refine br_f (by rw [hm]; exact nI_ge (by omega) (by omega)) ⟨4100 + j, nI_add 4100 j, by omega, fun q v4 h4 v5 h5 => ?_, fun q v5 h5 v6 h6 => ?_⟩
      · have e : cnt (fun j => q_i τ 67 (4100 + j)) v (j + 1) = cnt (fun j => q_i τ 67 (4100 + j)) v j := by
          show cnt _ v j + (if q_i τ 67 (4100 + j) = v then 1 else 0) = _
          rw [if_neg q]
          rfl
        rw [h4, h5, show nI j + 1 = nI (j + 1) from nI_1 j, show nI (cnt (fun j => q_i τ 67 (4100 + j)) v j) + 0 = nI (cnt (fun j => q_i τ 67 (4100 + j)) v j) from nI_add _ 0, ← e]
        exact ih (j + 1) (by omega)
      · have e : cnt (fun j => q_i τ 67 (4100 + j)) v (j + 1) = cnt (fun j => q_i τ 67 (4100 + j)) v j + 1 := by
          show cnt _ v j + (if q_i τ 67 (4100 + j) = v then 1 else 0) = _
          rw [if_pos q]
        rw [h5, h6, show nI j + 1 = nI (j + 1) from nI_1 j, nI_1, ← e]
        exact ih (j + 1) (by omega)
  exact ⟨n + 1, key n 0 (by omega)⟩
theorem k_lend_op : K_lend J := by
  intro a b τ hJ
  obtain ⟨n, hn, e1, e2, e3⟩ := hJ.nk
  obtain ⟨np, hnp, p1, p2, p3⟩ := hJ.np
  unfold T_X10_lend T_X11_lend
  by_cases h : inn a n
  · obtain ⟨c, hc, rfl⟩ := h
    have hcN : c < N (q_i τ 67) 8523 := by rw [e3]; exact hc
    have hh : q_i τ 12 c = q_i τ 67 (4100 + c) := hJ.2.1.1 (8, c, 0) ⟨hcN, rfl⟩
    refine s_X5_has_t e1 (by omega) hc (br_f (by decide) ?_)
    by_cases hb : inn b np
    · obtain ⟨x, hx, rfl⟩ := hb
      refine br_f (nI_pos (by omega)) (br_t (by rw [p1]; exact nI_lt hx (by omega)) ⟨c, rfl, by omega, fun q => ?_, fun q => ?_⟩)
      · refine s_remember hJ (fun τr hr => ⟨c, rfl, by omega, fun τ1 h1 => ?_⟩)
        have g : ∀ x, x < 19 → q_i τr (1 + x) = q_i τ (1 + x) := hr.now.1
        have e67 : q_i τ1 67 = q_i τ 67 := by rw [h1]; exact hr.st 12 c _ (by decide)
        have e12 : q_i τ1 12 = upd (q_i τ 12) c (nI x) := by
          rw [h1, q_i_si, if_pos rfl, g 11 (by decide)]
        refine s_heldBy (n := n) (by rw [h1, q_i_si, if_neg (by decide), g 8 (by decide)]; exact e1) hn ?_
        refine s_X11_isKey_t (by rw [e67]; exact e2) (by omega) hc (br_f (by decide) ?_)
        refine s_inN_t (n := np) (by rw [e67]; exact p2) (by omega) hx (bn_t (by decide) ⟨4100 + c, nI_add 4100 c, by omega, br_t (by rw [e67, ← hh]; exact q) ?_⟩)
        refine s_change (by rw [h1]; exact hr.hz hJ 12 c _ (by decide)) ⟨4100 + c, nI_add 4100 c, by omega, fun τ2 h2 => ?_⟩
        have e672 : q_i τ2 67 = upd (q_i τ 67) (4100 + c) (nI x) := by rw [h2, q_i_si, if_pos rfl, ← e67]; rfl
        refine s_lend_loop (n := n) (by rw [e672, upd_at, if_neg (by omega)]; exact e2) hn ⟨?_, k_hold hJ hr hcN (Or.inl (Or.inr ⟨x, by show x < _; rw [p3]; exact hx, rfl⟩)) h1 h2⟩
        refine congrArg nI (cnt_congr n (fun j hj => ?_))
        show q_i τ1 12 j = q_i τ2 67 (4100 + j)
        rw [e12, e672, upd_at, upd_at]
        by_cases z : j = c
        · rw [if_pos z, if_pos (by omega)]
        · rw [if_neg z, if_neg (by omega)]
          exact hJ.2.1.1 (8, j, 0) ⟨by rw [e3]; exact hj, rfl⟩
      · refine s_X11_isKey_t e2 (by omega) hc (br_f (by decide) ?_)
        exact s_inN_t (n := np) p2 (by omega) hx (bn_t (by decide) ⟨4100 + c, nI_add 4100 c, by omega, br_f (by rw [← hh]; exact q) ⟨rfl, hJ⟩⟩)
    · have hbad : T_X11_isKey (nI c) τ (fun r1 τ2 => ((r1 = 0 → (-2 : Int32) = (-2 : Int32) ∧ J τ2) ∧ (¬ r1 = 0 → (T_X11_in ((b).toInt64) (0 : Int64) ((((q_i τ2 67 8526) - (1 : Int32))).toInt64) τ2 (fun r4 τ5 => ((¬ r4 = 0 → (∃ j7 : Nat, ((4100 : Int32) + nI c) = nI j7 ∧ j7 < 8530 ∧ (((q_i τ5 67 j7) = (-1 : Int32) → (T_X11_change τ5 (fun τ10 => (∃ j11 : Nat, ((4100 : Int32) + nI c) = nI j11 ∧ j11 < 8530 ∧ (∀ τ12 : kT, τ12 = q_si τ10 67 j11 b → (∃ m20 : Nat, L_X11_lend_68 (nI c) b (fun v21 v22 τ23 => (-2 : Int32) = v21 ∧ J τ23) (fun r2 τ2 => (-2 : Int32) = r2 ∧ J τ2) m20 (0 : Int32) (0 : Int32) τ12)))))) ∧ (¬ (q_i τ5 67 j7) = (-1 : Int32) → (-2 : Int32) = (-3 : Int32) ∧ J τ5)))) ∧ (r4 = 0 → (-2 : Int32) = (-2 : Int32) ∧ J τ5))))))) := by
        refine s_X11_isKey_t e2 (by omega) hc (br_f (by decide) ?_)
        exact s_inN_f (n := np) p2 (by omega) hb (bn_f rfl ⟨rfl, hJ⟩)
      refine ⟨fun _ => hbad, fun q => ⟨fun q2 => absurd ?_ hb, fun _ => hbad⟩⟩
      rw [inn_iff (by omega)]
      rw [i_lt] at q
      rw [i_lt, p1, nI_toInt (by omega)] at q2
      have : (0 : Int32).toInt = 0 := rfl
      omega
  · refine s_X5_has_f e1 (by omega) h (br_t rfl ?_)
    exact s_X11_isKey_f e2 (by omega) h (br_t rfl ⟨rfl, hJ⟩)
