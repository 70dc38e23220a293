/-! ===== count: both ===== -/
def okV (s : Nat → Int32) (v : Int32) (n : Nat) : Prop := okS s v.toNatClampNeg n
def ff (s : Nat → Int32) (v1 v2 : Int32) : Nat → Nat := nar (nar f0 s v1.toNatClampNeg) s v2.toNatClampNeg
theorem ff_lt (s : Nat → Int32) (v1 v2 : Int32) : ∀ i, ff s v1 v2 i < 1024 := nar_lt (m := 10) s _ (nar_lt (m := 10) s _ (fun _ => (by decide : (1023 : Nat) < 2 ^ 10)))
def cntN (f : Nat → Nat) (st n : Nat) : Nat := if n = 0 then 1 else sumTo (WW f st (n - 1)) 10
theorem cntN_lt (f : Nat → Nat) (st : Nat) {n : Nat} (hn : n ≤ 18) : cntN f st n ≤ 10 ^ 18 := by
  unfold cntN
  split
  · decide
  · have h := sumTo_le (f := WW f st (n - 1)) (b := 10 ^ (n - 1)) (WW_le f st (n - 1)) 10
    have h2 : 10 * 10 ^ (n - 1) = 10 ^ (n - 1 + 1) := by rw [Nat.pow_succ, Nat.mul_comm]
    have h3 : 10 ^ (n - 1 + 1) ≤ 10 ^ 18 := Nat.pow_le_pow_right (by decide) (by omega)
    omega
theorem c_rowsT {τ : kT} {v1 v2 a1 : Int32} {n st : Nat} (hJ : J τ) (hv1 : z_or v1 (· < N (q_i τ 67) 8522)) (hv2 : z_or v2 (· < N (q_i τ 67) 8522)) (hn : n ≤ 18) (hs : st < 10) {post : Int64 → kT → Prop} (hm : miss (q_i τ 67) v1 ∨ miss (q_i τ 67) v2 → post (-11) τ) (hz : ¬ miss (q_i τ 67) v1 → ¬ miss (q_i τ 67) v2 → ¬ (okV (q_i τ 67) v1 n ∧ okV (q_i τ 67) v2 n) → ∀ τ2, CT τ τ2 → post 0 τ2) (h : ¬ miss (q_i τ 67) v1 → ¬ miss (q_i τ 67) v2 → okV (q_i τ 67) v1 n → okV (q_i τ 67) v2 n → ∀ τ2, CT τ τ2 → post (Int64.ofNat (cntN (ff (q_i τ 67) v1 v2) st n)) τ2) : T_X2_isMissing v1 τ (fun r4 τ5 => ((¬ r4 = 0 → post (-11 : Int64) τ5) ∧ (r4 = 0 → (T_X2_isMissing v2 τ5 (fun r7 τ8 => ((r7 = 0 → (∃ m14 : Nat, L_X2_rowsThatOpen_55 a1 (nI n) (nI st) v1 v2 (fun v15 τ16 => (T_X2_narrow v1 (nI n) τ16 (fun r17 τ18 => ((r17 = 0 → post (0 : Int64) τ18) ∧ (¬ r17 = 0 → (T_X2_narrow v2 (nI n) τ18 (fun r20 τ21 => ((¬ r20 = 0 → (T_X2_countUp (nI n) (nI st) τ21 (fun r23 τ24 => post r23 τ24))) ∧ (r20 = 0 → post (0 : Int64) τ21))))))))) post m14 (0 : Int32) τ8)) ∧ (¬ r7 = 0 → post (-11 : Int64) τ8))))))) := by
  refine s_isMissing hJ hv1 (fun y => bn_t (by decide) (hm (Or.inl y))) (fun y1 => bn_f rfl ?_)
  refine s_isMissing hJ hv2 (fun y => br_f (by decide) (hm (Or.inr y))) (fun y2 => br_t rfl ⟨n + 1, ?_⟩)
  have nz := hz y1 y2
  have nh := h y1 y2
  have hb := hJ.1.bnd.1
  obtain ⟨c1, hc1, rfl⟩ := hv1.resolve_left (fun y => y1 (Or.inl y))
  obtain ⟨c2, hc2, rfl⟩ := hv2.resolve_left (fun y => y2 (Or.inl y))
  have hc1 : c1 < N (q_i τ 67) 8522 := hc1
  have hc2 : c2 < N (q_i τ 67) 8522 := hc2
  unfold okV at nz nh
  unfold ff at nh
  rw [nI_clamp (by omega), nI_clamp (by omega)] at nz nh
  have z1 : q_i τ 67 (100 + c1) ≠ -1 := fun y => y1 (Or.inr (by rw [nI_clamp (by omega)]; exact y))
  have z2 : q_i τ 67 (100 + c2) ≠ -1 := fun y => y2 (Or.inr (by rw [nI_clamp (by omega)]; exact y))
  obtain ⟨r1, hr1, e1, -⟩ := (hJ.1.row hc1).resolve_left (fun y => z1 y.1)
  obtain ⟨r2, hr2, e2, -⟩ := (hJ.1.row hc2).resolve_left (fun y => z2 y.1)
  have key : ∀ m j τ2, j + m = n → CT τ τ2 → (∀ i, i < j → q_i τ2 60 i = nI (f0 i)) → L_X2_rowsThatOpen_55 a1 (nI n) (nI st) (nI c1) (nI c2) (fun v15 τ16 => (T_X2_narrow (nI c1) (nI n) τ16 (fun r17 τ18 => ((r17 = 0 → post (0 : Int64) τ18) ∧ (¬ r17 = 0 → (T_X2_narrow (nI c2) (nI n) τ18 (fun r20 τ21 => ((¬ r20 = 0 → (T_X2_countUp (nI n) (nI st) τ21 (fun r23 τ24 => post r23 τ24))) ∧ (r20 = 0 → post (0 : Int64) τ21))))))))) post (m + 1) (nI j) τ2 := by
    intro m
    induction m with
    | zero =>
      intro j τ2 hj h2 hm2
      have hj : j = n := by omega
      subst hj
      unfold L_X2_rowsThatOpen_55
      refine br_t (nI_le (Nat.le_refl _) (by omega)) ?_
      refine c_narrow hJ h2 hc1 e1 hr1 hn hm2 (fun o1 τ3 h3 hm3 => br_f (by decide) ?_) (fun o1 τ3 h3 => br_t rfl (nz (fun y => o1 y.1) τ3 h3))
      refine c_narrow hJ h3 hc2 e2 hr2 hn hm3 (fun o2 τ4 h4 hm4 => bn_t (by decide) ?_) (fun o2 τ4 h4 => bn_f rfl (nz (fun y => o2 y.2) τ4 h4))
      have g := nh o1 o2
      unfold cntN at g
      refine s_countUp (f := nar (nar f0 (q_i τ 67) c1) (q_i τ 67) c2) (nar_lt (m := 10) _ _ (nar_lt (m := 10) _ _ (fun _ => (by decide : (1023 : Nat) < 2 ^ 10)))) hs hn h4 hm4 (fun q => ?_) (fun q τ5 h5 => ?_)
      · rw [if_pos q] at g
        exact g τ4 h4
      · rw [if_neg q] at g
        exact g τ5 h5
    | succ m ih =>
      intro j τ2 hj h2 hm2
      unfold L_X2_rowsThatOpen_55
      refine br_f (nI_ge (by omega) (by omega)) ⟨j, rfl, by omega, fun τ12 h12 v13 h13 => ?_⟩
      subst h12
      rw [h13, show nI j + 1 = nI (j + 1) from nI_1 j]
      refine ih (j + 1) _ (by omega) (h2.si _ _) (fun i hi => ?_)
      rw [q_i_si, if_pos rfl, upd_at]
      by_cases e : i = j
      · rw [if_pos e]; rfl
      · rw [if_neg e]; exact hm2 i (by omega)
  exact key n 0 τ (by omega) (CT.refl τ) (fun i hi => absurd hi (by omega))
theorem prt_z {s : Nat → Int32} (hI : InvS s) {v : Int32} (hv : z_or v (· < N s 8522)) : z_or (prt s v).1 (· < N s 8522) ∧ z_or (prt s v).2 (· < N s 8522) := by
  unfold prt
  split
  · rename_i q
    obtain ⟨c, hc, rfl⟩ := hv.resolve_left q.1
    have hc : c < N s 8522 := hc
    have := hI.bnd.1
    rw [nI_clamp (by omega)]
    obtain ⟨-, -, -, -, p5, p6⟩ := hI.2.2.2.2.2.2.2.1 c hc
    exact ⟨p5.imp id (fun ⟨x, y, z⟩ => ⟨x, y.1, z⟩), p6.imp id (fun ⟨x, y, z⟩ => ⟨x, y.1, z⟩)⟩
  · exact ⟨hv, hv⟩
theorem c_rows {τ : kT} {v : Int32} {n st : Nat} (hJ : J τ) (hv : z_or v (· < N (q_i τ 67) 8522)) (hn : n ≤ 18) (hs : st < 10) {post : Int64 → kT → Prop} (hm : miss (q_i τ 67) (prt (q_i τ 67) v).1 ∨ miss (q_i τ 67) (prt (q_i τ 67) v).2 → post (-11) τ) (hz : ¬ miss (q_i τ 67) (prt (q_i τ 67) v).1 → ¬ miss (q_i τ 67) (prt (q_i τ 67) v).2 → ¬ (okV (q_i τ 67) (prt (q_i τ 67) v).1 n ∧ okV (q_i τ 67) (prt (q_i τ 67) v).2 n) → ∀ τ2, CT τ τ2 → post 0 τ2) (h : ¬ miss (q_i τ 67) (prt (q_i τ 67) v).1 → ¬ miss (q_i τ 67) (prt (q_i τ 67) v).2 → okV (q_i τ 67) (prt (q_i τ 67) v).1 n → okV (q_i τ 67) (prt (q_i τ 67) v).2 n → ∀ τ2, CT τ τ2 → post (Int64.ofNat (cntN (ff (q_i τ 67) (prt (q_i τ 67) v).1 (prt (q_i τ 67) v).2) st n)) τ2) : T_X2_rowsThatOpen v (nI n) (nI st) τ post := by
  obtain ⟨nc, hnc, c1, c2, c3⟩ := hJ.nc
  have hp := prt_z hJ.1 hv
  unfold T_X2_rowsThatOpen
  refine s_isDouble_z c1 hnc (by rw [← c3]; exact hv) (fun q => br_f (by decide) ?_) (fun q => br_t rfl ?_)
  · obtain ⟨c, hc, rfl, q⟩ := q
    have hc3 : c < N (q_i τ 67) 8522 := by rw [c3]; exact hc
    have k1 : q_i τ 3 c = q_i τ 67 c := hJ.2.1.1 (1, c, 0) ⟨hc3, rfl⟩
    have fe1 : q_i τ 6 c = q_i τ 67 (200 + c) := hJ.2.1.1 (3, c, 0) ⟨hc3, rfl⟩
    have fe2 : q_i τ 7 c = q_i τ 67 (300 + c) := hJ.2.1.1 (4, c, 0) ⟨hc3, rfl⟩
    have e : prt (q_i τ 67) (nI c) = (q_i τ 67 (200 + c), q_i τ 67 (300 + c)) := by
      unfold prt
      rw [nI_clamp (by omega), if_pos ⟨nI_m1 (by omega), by rw [← k1]; exact q⟩]
    rw [e] at hm hz h hp
    refine ⟨c, rfl, by omega, fun v26 h26 => ⟨c, rfl, by omega, fun v28 h28 => ?_⟩⟩
    rw [h26, h28, fe1, fe2]
    exact c_rowsT hJ hp.1 hp.2 hn hs hm hz h
  · have e : prt (q_i τ 67) v = (v, v) := by
      unfold prt
      rw [if_neg]
      rintro ⟨y1, y2⟩
      obtain ⟨c, hc, rfl⟩ := hv.resolve_left y1
      have hc : c < N (q_i τ 67) 8522 := hc
      rw [nI_clamp (by omega)] at y2
      have k1 : q_i τ 3 c = q_i τ 67 c := hJ.2.1.1 (1, c, 0) ⟨hc, rfl⟩
      exact q ⟨c, by rw [← c3]; exact hc, rfl, by rw [k1]; exact y2⟩
    rw [e] at hm hz h hp
    exact c_rowsT hJ hp.1 hp.2 hn hs hm hz h
/-! the reference -/
theorem r_narV {τ0 τ : kT} {v : Int32} {n : Nat} {f : Nat → Nat} {P : Prop} (hI : InvS (q_i τ0 67)) (hT : RT τ0 τ) (hv : z_or v (fun x => x < N (q_i τ0 67) 8522 ∧ q_i τ0 67 x ≠ 4)) (hn : n ≤ 18) (e : Nat) (hF : nvF τ P f) {post : Int32 → kT → Prop} (hm : miss (q_i τ0 67) v → ∀ τ2, RT τ0 τ2 → post 0 τ2) (h : ¬ miss (q_i τ0 67) v → ∀ τ2, RT τ0 τ2 → nvF τ2 (P ∨ ¬ okV (q_i τ0 67) v n) (nar f (q_i τ0 67) v.toNatClampNeg) → post 1 τ2) : T_X11_narrows (e + 1) v (nI n) τ post := by
  have hb := hI.bnd.1
  rcases hv with rfl | ⟨c, ⟨hc, n4⟩, rfl⟩
  · unfold T_X11_narrows
    exact bn_f rfl (hm (Or.inl rfl) τ hT)
  · unfold okV miss at *
    rw [nI_clamp (by omega)] at hm h
    have n1 : ¬ nI c = -1 := nI_m1 (by omega)
    exact r_nar1 hI hT hc n4 hn e hF (fun y => hm (Or.inr y)) (fun y => h (fun w => w.elim n1 y))
theorem r_nar2 {τ0 τ : kT} {v : Int32} {n : Nat} (hI : InvS (q_i τ0 67)) (hT : RT τ0 τ) (hv : z_or v (· < N (q_i τ0 67) 8522)) (hn : n ≤ 18) (hF : nvF τ False f0) {post : Int32 → kT → Prop} (hm : miss (q_i τ0 67) (prt (q_i τ0 67) v).1 ∨ miss (q_i τ0 67) (prt (q_i τ0 67) v).2 → ∀ τ2, RT τ0 τ2 → post 0 τ2) (h : ¬ miss (q_i τ0 67) (prt (q_i τ0 67) v).1 → ¬ miss (q_i τ0 67) (prt (q_i τ0 67) v).2 → ∀ τ2, RT τ0 τ2 → nvF τ2 (¬ (okV (q_i τ0 67) (prt (q_i τ0 67) v).1 n ∧ okV (q_i τ0 67) (prt (q_i τ0 67) v).2 n)) (ff (q_i τ0 67) (prt (q_i τ0 67) v).1 (prt (q_i τ0 67) v).2) → post 1 τ2) : T_X11_narrows 2 v (nI n) τ post := by
  have hb := hI.bnd.1
  have e67 : ∀ {τ'}, RT τ0 τ' → q_i τ' 67 = q_i τ0 67 := fun hT => hT.1 67 (by decide) (by decide)
  by_cases q : v ≠ -1 ∧ q_i τ0 67 v.toNatClampNeg = 4
  · have e : prt (q_i τ0 67) v = (q_i τ0 67 (200 + v.toNatClampNeg), q_i τ0 67 (300 + v.toNatClampNeg)) := if_pos q
    rw [e] at hm h
    obtain ⟨c, hc, rfl⟩ := hv.resolve_left q.1
    have hc : c < N (q_i τ0 67) 8522 := hc
    obtain ⟨q1, q2⟩ := q
    rw [nI_clamp (by omega)] at q2 hm h
    obtain ⟨-, -, -, -, p5, p6⟩ := hI.2.2.2.2.2.2.2.1 c hc
    unfold T_X11_narrows
    refine bn_t q1 ⟨c, ev_0a c, by omega, bn_f (by rw [e67 hT]; exact q2) ⟨200 + c, nI_add 200 c, by omega, ?_⟩⟩
    rw [e67 hT]
    refine r_narV hI hT p5 hn 0 hF (fun y τ2 h2 => br_t rfl (hm (Or.inl y) τ2 h2)) (fun y τ2 h2 hF2 => br_f (by decide) ⟨300 + c, nI_add 300 c, by omega, ?_⟩)
    rw [e67 h2]
    refine r_narV hI h2 p6 hn 0 hF2 (fun y2 τ3 h3 => br_t rfl (hm (Or.inr y2) τ3 h3)) (fun y2 τ3 h3 hF3 => br_f (by decide) (h y y2 τ3 h3 ?_))
    have eP : (¬ (okV (q_i τ0 67) (q_i τ0 67 (200 + c)) n ∧ okV (q_i τ0 67) (q_i τ0 67 (300 + c)) n)) ↔ ((False ∨ ¬ okV (q_i τ0 67) (q_i τ0 67 (200 + c)) n) ∨ ¬ okV (q_i τ0 67) (q_i τ0 67 (300 + c)) n) := by
      constructor
      · intro y
        by_cases w : okV (q_i τ0 67) (q_i τ0 67 (200 + c)) n
        · exact Or.inr (fun w2 => y ⟨w, w2⟩)
        · exact Or.inl (Or.inr w)
      · rintro ((y | y) | y)
        · exact y.elim
        · exact fun w => y w.1
        · exact fun w => y w.2
    show nvF τ3 (¬ (okV (q_i τ0 67) (q_i τ0 67 (200 + c)) n ∧ okV (q_i τ0 67) (q_i τ0 67 (300 + c)) n)) _
    rw [nvF, eP]
    exact hF3
  · have e : prt (q_i τ0 67) v = (v, v) := if_neg q
    rw [e] at hm h
    have hv2 : z_or v (fun x => x < N (q_i τ0 67) 8522 ∧ q_i τ0 67 x ≠ 4) := by
      rcases hv with z | ⟨c, hc, z⟩
      · exact Or.inl z
      · have hc : c < N (q_i τ0 67) 8522 := hc
        refine Or.inr ⟨c, ⟨hc, fun y => q ⟨by rw [z]; exact nI_m1 (by omega), by rw [z, nI_clamp (by omega)]; exact y⟩⟩, z⟩
    refine r_narV hI hT hv2 hn 1 hF (fun y => hm (Or.inl y)) (fun y τ2 h2 hF2 => h y y τ2 h2 ?_)
    have eP : (¬ (okV (q_i τ0 67) v n ∧ okV (q_i τ0 67) v n)) ↔ (False ∨ ¬ okV (q_i τ0 67) v n) := ⟨fun y => Or.inr (fun w => y ⟨w, w⟩), fun y w => y.elim id (fun z => z w.1)⟩
    show nvF τ2 (¬ (okV (q_i τ0 67) v n ∧ okV (q_i τ0 67) v n)) (nar (nar f0 (q_i τ0 67) v.toNatClampNeg) (q_i τ0 67) v.toNatClampNeg)
    rw [nar_nar, nvF, eP]
    exact hF2
theorem J_cnt {τ τ1 τ2 τ3 τ4 τ5 : kT} {a b : Int32} (hJ : J τ) (h1 : CT τ τ1) (h2 : SC τ1 τ2 a b) (h3 : RT τ2 τ3) (h4 : SR τ3 τ4 a b) (h5 : RT τ4 τ5) : J τ5 := by
  obtain ⟨c1, c2, c3, c4, c5⟩ := h2
  obtain ⟨u1, u2, u3, u4, u5⟩ := h4
  obtain ⟨-, -, -, -, -, ⟨s3, s4, s5⟩, a7, a8, a9, -⟩ := id hJ
  have g : ∀ x, x ≠ 0 → x ≠ 59 → x ≠ 60 → x ≠ 66 → x ≠ 75 → q_i τ5 x = q_i τ x := fun x n0 n1 n2 n3 n4 => by rw [h5.1 x n3 n4, u1 x n3, h3.1 x n3 n4, c1 x n0, h1.1 x n1 n2]
  have gl : ∀ x, x < 39 → q_l τ5 x = q_l τ x := fun x hx => by rw [h5.2.1 x (by omega) (by omega), u2 x, h3.2.1 x (by omega) (by omega), c2 x, h1.2 x (by omega) (by omega)]
  have g0 : ∀ k, q_i τ5 0 k = q_i τ2 0 k := fun k => by rw [h5.1 0 (by decide) (by decide), u1 0 (by decide), h3.1 0 (by decide) (by decide)]
  have g0k : ∀ k, k ≠ 4 → k ≠ 5 → q_i τ5 0 k = q_i τ 0 k := fun k n4 n5 => by rw [g0 k, c3 k n4 n5, h1.1 0 (by decide) (by decide)]
  have g66 : ∀ k, k ≠ 4 → k ≠ 5 → k ≠ 20 → q_i τ5 66 k = q_i τ 66 k := fun k n4 n5 n20 => by rw [h5.2.2 k n20, u3 k n4 n5, h3.2.2 k n20, c1 66 (by decide), h1.1 66 (by decide) (by decide)]
  have gg : ∀ x, x = 39 ∨ x = 40 ∨ x = 41 ∨ x = 45 ∨ x = 65 ∨ x = 67 ∨ x = 68 ∨ x = 69 → q_i τ5 x = q_i τ x := fun x hx => g x (by omega) (by omega) (by omega) (by omega) (by omega)
  refine hJ.keep ⟨fun x x1 x2 => g x (by omega) (by omega) (by omega) (by omega) (by omega), fun x x1 x2 => gl x x2, gg 67 (by decide), gg 68 (by decide)⟩ ⟨g0k 2 (by decide) (by decide), g66 2 (by decide) (by decide) (by decide)⟩ ⟨?_, ?_, ?_⟩ ?_ ?_ ?_ (by rw [gg 65 (by decide)])
  · rw [g66 3 (by decide) (by decide) (by decide), g0k 3 (by decide) (by decide)]; exact s3
  · rw [h5.2.2 4 (by decide), u4, g0, c4]
  · rw [h5.2.2 5 (by decide), u5, h3.2.2 5 (by decide), c1 66 (by decide), h1.1 66 (by decide) (by decide), g0, c5, h1.1 0 (by decide) (by decide), s5]
  · rw [g66 6 (by decide) (by decide) (by decide), gg 39 (by decide)]; exact a7
  · rw [g66 10 (by decide) (by decide) (by decide), gg 45 (by decide)]; exact a8
  · rw [g66 9 (by decide) (by decide) (by decide), gg 40 (by decide), gg 41 (by decide), gg 69 (by decide)]; exact a9
theorem k_count_op : K_count J := by
  intro a b c τ hJ
  obtain ⟨nd, hnd, d1, d2, d3⟩ := hJ.nd
  unfold T_X10_count
  by_cases hd : inn a nd
  case neg =>
    refine s_X6_hasDoor_f d1 (by omega) hd (br_t rfl ?_)
    unfold T_X11_count
    exact s_X11_isDoor_f d2 (by omega) hd (br_t rfl ⟨rfl, hJ⟩)
  obtain ⟨d, hd, rfl⟩ := hd
  refine s_X6_hasDoor_t d1 (by omega) hd (br_f (by decide) ?_)
  have z0 : (0 : Int32).toInt = 0 := rfl
  by_cases hn : inn b 19
  case neg =>
    have bad : T_X11_count (nI d) b c τ (fun r2 τ2 => -2 = r2 ∧ J τ2) := by
      unfold T_X11_count
      exact s_X11_isDoor_t d2 (by omega) hd (br_f (by decide) (s_inL_f (n := 19) (by decide) (by omega) hn (br_t rfl ⟨rfl, hJ⟩)))
    refine ⟨fun _ => bad, fun q => ⟨fun _ => bad, fun q2 => absurd ?_ hn⟩⟩
    rw [inn_iff (by omega)]
    rw [i_lt] at q q2
    have : (18 : Int32).toInt = 18 := rfl
    omega
  obtain ⟨n, hn, rfl⟩ := hn
  refine br_f (nI_pos (by omega)) (br_f (nI_nlt (a := 18) (by omega) (by omega)) ?_)
  by_cases hs : inn c 10
  case neg =>
    have bad : T_X11_count (nI d) (nI n) c τ (fun r2 τ2 => -2 = r2 ∧ J τ2) := by
      unfold T_X11_count
      exact s_X11_isDoor_t d2 (by omega) hd (br_f (by decide) (s_inL_t (n := 19) (by decide) (by omega) hn (br_f (by decide) (s_inL_f (n := 10) (by decide) (by omega) hs (bn_f rfl ⟨rfl, hJ⟩)))))
    refine ⟨fun _ => bad, fun q => ⟨fun q2 => absurd ?_ hs, fun _ => bad⟩⟩
    rw [inn_iff (by omega)]
    rw [i_lt] at q
    rw [i_le] at q2
    have : (9 : Int32).toInt = 9 := rfl
    omega
  obtain ⟨st, hs, rfl⟩ := hs
  refine br_f (nI_pos (by omega)) (br_t (nI_le (b := 9) (by omega) (by decide)) ⟨d, rfl, by omega, ?_⟩)
  obtain ⟨lk, lz⟩ := hJ.lock (d := d) (by rw [d3]; exact hd)
  rw [lk]
  have ref : ∀ {τ' : kT} {post : Int64 → kT → Prop}, q_i τ' 67 = q_i τ 67 → (∀ τ3, RT τ' τ3 → nvF τ3 False f0 → T_X11_narrows 2 (q_i τ 67 (4464 + d)) (nI n) τ3 (fun r19 τ20 => ((¬ r19 = 0 → (∀ τ22 : kT, τ22 = q_si τ20 66 4 (0 : Int32) → ((¬ (q_i τ22 66 20) = 0 → (((q_i τ22 66 20) = 0 → post (1 : Int64) τ22) ∧ (¬ (q_i τ22 66 20) = 0 → post (0 : Int64) τ22))) ∧ ((q_i τ22 66 20) = 0 → ((¬ nI n = 0 → (∃ m30 : Nat, L_X11_count_124 (nI d) (nI n) (nI st) (fun v31 τ32 => (∃ m70 : Nat, L_X11_count_159 (nI d) (nI n) (nI st) (fun v71 τ72 => (∃ m77 : Nat, L_X11_count_301 (nI d) (nI n) (nI st) (fun v78 v79 τ80 => post v78 τ80) post m77 (0 : Int64) (0 : Int32) τ72)) post m70 (1 : Int32) τ32)) post m30 (0 : Int32) τ22)) ∧ (nI n = 0 → (((q_i τ22 66 20) = 0 → post (1 : Int64) τ22) ∧ (¬ (q_i τ22 66 20) = 0 → post (0 : Int64) τ22)))))))) ∧ (r19 = 0 → (T_X11_met (1 : Int32) τ20 (fun r82 τ83 => post ((r82).toInt64) τ83)))))) → T_X11_count (nI d) (nI n) (nI st) τ' post := by
    intro τ' post e67 hh
    unfold T_X11_count
    refine s_X11_isDoor_t (n := nd) (by rw [e67]; exact d2) (by omega) hd (br_f (by decide) (s_inL_t (n := 19) (by decide) (by omega) hn (br_f (by decide) (s_inL_t (n := 10) (by decide) (by omega) hs (bn_t (by decide) ⟨19, ?_⟩)))))
    have key : ∀ m j τ2, j + m = 18 → RT τ' τ2 → (∀ i, i < j → q_i τ2 75 i = nI (f0 i)) → ∀ K : Int32 → kT → Prop, (∀ u τ3, RT τ' τ3 → (∀ i, i < 18 → q_i τ3 75 i = nI (f0 i)) → K u τ3) → L_X11_count_39 (nI d) (nI n) (nI st) K post (m + 1) (nI j) τ2 := by
      intro m
      induction m with
      | zero =>
        intro j τ2 hj h2 hm K hK
        have hj : j = 18 := by omega
        subst hj
        unfold L_X11_count_39
        exact br_t (by decide) (hK _ τ2 h2 hm)
      | succ m ih =>
        intro j τ2 hj h2 hm K hK
        unfold L_X11_count_39
        refine br_f (nI_ge (b := 18) (by omega) (by decide)) ⟨j, rfl, by omega, fun τ12 h12 v13 h13 => ?_⟩
        subst h12
        rw [h13, show nI j + 1 = nI (j + 1) from nI_1 j]
        refine ih (j + 1) _ (by omega) (h2.si _ _) (fun i hi => ?_) K hK
        rw [q_i_si, if_pos rfl, upd_at]
        by_cases e : i = j
        · rw [if_pos e]; rfl
        · rw [if_neg e]; exact hm i (by omega)
    refine key 18 0 τ' (by omega) (RT.refl τ') (fun i hi => absurd hi (by omega)) _ (fun u τ3 h3 hm3 τ17 h17 => ⟨4464 + d, nI_add 4464 d, by omega, ?_⟩)
    subst h17
    have e : q_i (q_si τ3 66 20 0) 67 = q_i τ 67 := by
      show q_i τ3 67 = _
      rw [h3.1 67 (by decide) (by decide), e67]
    rw [e]
    exact hh _ (h3.nv 0) (Or.inr ⟨rfl, fun y => y, hm3⟩)
  refine c_rows hJ lz (by omega) hs (fun hm => ?_) (fun y1 y2 ho τ1 h1 => ?_) (fun y1 y2 o1 o2 τ1 h1 => ?_)
  · refine bn_f (by decide) (s_settle_met (f := 1) ⟨by decide, by decide⟩ ?_)
    have hS := SC_1 τ 1
    have e67 : q_i (q_si (q_si τ 0 4 1) 0 5 (q_i τ 0 5 + 1)) 67 = q_i τ 67 := rfl
    refine ref e67 (fun τ3 h3 hF => ?_)
    refine r_nar2 (by rw [e67]; exact hJ.1) h3 (by rw [e67]; exact lz) (by omega) hF (fun _ τ4 h4 => bn_f rfl (s_met ⟨by decide, J_cnt hJ (CT.refl τ) hS h4 (SR_1 τ4 1) (RT.refl _)⟩)) (fun w1 w2 => ?_)
    rw [e67] at w1 w2
    exact absurd hm (fun y => y.elim w1 w2)
  · refine bn_t (by decide) (s_settle_n (n := 0) (by decide) ?_)
    have hS := SC_0 τ1
    have e67 : q_i (q_si τ1 0 4 0) 67 = q_i τ 67 := h1.1 67 (by decide) (by decide)
    refine ref e67 (fun τ3 h3 hF => ?_)
    refine r_nar2 (by rw [e67]; exact hJ.1) h3 (by rw [e67]; exact lz) (by omega) hF (fun w => ?_) (fun w1 w2 τ4 h4 hF4 => bn_t (by decide) (fun τ22 h22 => ?_))
    · rw [e67] at w
      exact absurd w (fun y => y.elim y1 y2)
    · rw [e67] at hF4
      rcases hF4 with ⟨p1, -⟩ | ⟨-, p2, -⟩
      · have p : ¬ q_i τ22 66 20 = 0 := by rw [h22]; show ¬ q_i τ4 66 20 = 0; rw [p1]; decide
        refine bn_t p (br_f p ⟨rfl, ?_⟩)
        rw [h22]
        exact J_cnt hJ h1 hS h4 (SR_0 τ4) (RT.refl _)
      · exact absurd ho p2
  · have cl := cntN_lt (ff (q_i τ 67) (prt (q_i τ 67) (q_i τ 67 (4464 + d))).1 (prt (q_i τ 67) (q_i τ 67 (4464 + d))).2) st (n := n) (by omega)
    generalize hcn : cntN (ff (q_i τ 67) (prt (q_i τ 67) (q_i τ 67 (4464 + d))).1 (prt (q_i τ 67) (q_i τ 67 (4464 + d))).2) st n = cn at cl
    refine bn_t (fun q => ?_) (s_settle_n (n := 0) (by decide) ?_)
    · rw [s_cmp.2.2] at q
      have := congrArg Int64.toInt q
      rw [Int64.toInt_ofNat_of_lt (by omega)] at this
      have t11 : (-11 : Int64).toInt = -11 := by decide
      omega
    have hS := SC_0 τ1
    have e67 : q_i (q_si τ1 0 4 0) 67 = q_i τ 67 := h1.1 67 (by decide) (by decide)
    refine ref e67 (fun τ3 h3 hF => ?_)
    refine r_nar2 (by rw [e67]; exact hJ.1) h3 (by rw [e67]; exact lz) (by omega) hF (fun w => ?_) (fun w1 w2 τ4 h4 hF4 => bn_t (by decide) (fun τ22 h22 => ?_))
    · rw [e67] at w
      exact absurd w (fun y => y.elim y1 y2)
    · rw [e67] at hF4
      rcases hF4 with ⟨-, p2⟩ | ⟨p1, -, p3⟩
      · exact absurd ⟨o1, o2⟩ p2
      · have p : q_i τ22 66 20 = 0 := by rw [h22]; exact p1
        refine bn_f p ?_
        by_cases q0 : n = 0
        · refine bn_f (by rw [q0]; rfl) (br_t p ⟨?_, ?_⟩)
          · rw [← hcn]
            unfold cntN
            rw [if_pos q0]
            rfl
          · rw [h22]
            exact J_cnt hJ h1 hS h4 (SR_0 τ4) (RT.refl _)
        · refine bn_t (fun y => q0 ((nI_eq (b := 0) (by omega) (by decide)).mp y)) ?_
          subst h22
          refine r_countUp (τ0 := q_si τ4 66 4 0) (τ := q_si τ4 66 4 0) (ff_lt _ _ _) hs (by omega) q0 (RT.refl _) p3 (fun τ6 h6 => ⟨?_, J_cnt hJ h1 hS h4 (SR_0 τ4) h6⟩)
          rw [← hcn]
          unfold cntN
          rw [if_neg q0]
