theorem k_cylinder_op : K_cylinder J := by
  intro a b τ hJ
  obtain ⟨nc, hnc, c1, c2, c3⟩ := hJ.nc
  unfold T_X10_cylinder T_X10_makeCylinder
  have bad : (¬ inn a 4 ∨ ¬ b ≤ 18) → T_X10_settle (-2) τ (fun r3 τ4 => T_X11_cylinder a b τ4 (fun r2 τ2 => r3 = r2 ∧ J τ2)) := by
    intro h
    refine s_settle_bad (Or.inl rfl) ?_
    unfold T_X11_cylinder
    by_cases ha : inn a 4
    · obtain ⟨k, hk, rfl⟩ := ha
      exact s_inL_t (n := 4) (by decide) (by omega) hk (br_f (by decide) (br_f (h.resolve_left (fun q => q (inn_nI hk))) ⟨rfl, hJ⟩))
    · exact s_inL_f (n := 4) (by decide) (by omega) ha (br_t rfl ⟨rfl, hJ⟩)
  have z0 : (0 : Int32).toInt = 0 := rfl
  have z3 : (3 : Int32).toInt = 3 := rfl
  by_cases ha : inn a 4
  case neg =>
    refine ⟨fun _ => bad (Or.inl ha), fun q => ⟨fun _ => bad (Or.inl ha), fun q2 => absurd ?_ ha⟩⟩
    rw [inn_iff (by omega)]
    rw [i_lt] at q q2
    omega
  obtain ⟨kd, hkd, rfl⟩ := ha
  refine br_f (nI_pos (by omega)) (br_f (nI_nlt (a := 3) (by omega) (by omega)) ?_)
  by_cases hb : b ≤ 18
  case neg => exact br_f hb (bad (Or.inr hb))
  refine br_t hb ?_
  have ri : ∀ {τ' : kT} {post : Int32 → kT → Prop}, q_i τ' 67 8522 = nI nc → (nc = 100 → post (-4) τ') → (nc ≠ 100 → ((0 ≤ b → (T_X11_newCylinder (nI kd) b (-1 : Int32) (-1 : Int32) τ' (fun r7 τ8 => post r7 τ8))) ∧ (¬ 0 ≤ b → (T_X11_met (5 : Int32) τ' (fun r9 τ10 => post r9 τ10))))) → T_X11_cylinder (nI kd) b τ' post := by
    intro τ' post e h1 h2
    unfold T_X11_cylinder
    refine s_inL_t (n := 4) (by decide) (by omega) hkd (br_f (by decide) (br_t hb ?_))
    rw [e]
    by_cases q : nc = 100
    · exact bn_f (by rw [q]; rfl) (h1 q)
    · exact bn_t (fun y => q ((nI_eq (b := 100) (by omega) (by decide)).mp y)) (h2 q)
  by_cases hc : nc < 100
  case neg =>
    refine br_f (by rw [c1]; exact nI_nlt (b := 100) (by omega) (by omega)) (s_settle_bad (Or.inr (Or.inr rfl)) ?_)
    exact ri c2 (fun _ => ⟨rfl, hJ⟩) (fun q => absurd (by omega) q)
  refine br_t (by rw [c1]; exact nI_lt hc (by decide)) ?_
  by_cases hb0 : 0 ≤ b
  case neg =>
    refine br_f hb0 (s_settle_met (f := 5) ⟨by decide, by decide⟩ ?_)
    exact ri c2 (fun q => absurd q (by omega)) (fun _ => br_f hb0 (s_met ⟨by decide, e_met hJ 5⟩))
  obtain ⟨n, hn, rfl⟩ : inn b 19 := by
    rw [inn_iff (by decide)]
    rw [i_le] at hb hb0
    have : (18 : Int32).toInt = 18 := rfl
    omega
  refine br_t hb0 (s_remember hJ (fun τr hr => ?_))
  have g : ∀ x, x < 19 → q_i τr (1 + x) = q_i τ (1 + x) := hr.now.1
  refine c_addC (c := nc) (n := n) (by rw [g 1 (by decide)]; exact c1) hc (by omega) (fun τ1 w1 wx wl x25 x26 x3 x4 x5 x6 x7 => s_settle_n (by omega) ?_)
  have e67 : q_i (q_si τ1 0 4 0) 67 = q_i τ 67 := by
    show q_i τ1 67 = _
    rw [w1.1 67 (by decide), hr.1 67 (by decide) (by decide)]
  have e66 : q_i (q_si τ1 0 4 0) 66 = q_i τ 66 := by
    show q_i τ1 66 = _
    rw [w1.1 66 (by decide), hr.1 66 (by decide) (by decide)]
  have e68 : q_i (q_si τ1 0 4 0) 68 = q_i τ 68 := by
    show q_i τ1 68 = _
    rw [w1.1 68 (by decide), hr.1 68 (by decide) (by decide)]
  refine ri (by rw [e67]; exact c2) (fun q => absurd q (by omega)) (fun _ => br_t hb0 ?_)
  refine r_newC (by rw [e67, e68]; exact hJ.hz) (by rw [e67]; exact c2) hc (fun τ2 hR => ⟨rfl, ?_⟩)
  rw [e67, e66] at hR
  exact J_newC hJ hr c3 hc (by omega) (by omega) (fun q => absurd q (by omega)) (Or.inl rfl) (Or.inl rfl) w1 wx wl x25 x26 x3 x4 x5 x6 x7 hR
/-! twin -/
def dbl (s : Nat → Int32) (n : Nat) (a : Int32) : Prop := ∃ x, x < n ∧ a = nI x ∧ s x = 4
theorem s_isDouble_z {τ : kT} {n : Nat} {a : Int32} {post : Int32 → kT → Prop} (hm : q_i τ 2 5 = nI n) (hn : n ≤ 100) (ha : z_or a (· < n)) (h1 : dbl (q_i τ 3) n a → post 1 τ) (h0 : ¬ dbl (q_i τ 3) n a → post 0 τ) : T_X4_isDouble a τ post := by
  rcases ha with rfl | ⟨x, hx, rfl⟩
  · unfold T_X4_isDouble
    refine s_X4_has_f (n := n) hm (by omega) (fun ⟨j, hj, e⟩ => nI_m1 (by omega) e.symm) (br_t rfl (h0 ?_))
    rintro ⟨x, hx, e, -⟩
    exact nI_m1 (by omega) e.symm
  · have hx : x < n := hx
    by_cases q : q_i τ 3 x = 4
    · exact s_X4_isDouble_t hm hn hx q (h1 ⟨x, hx, rfl, q⟩)
    · refine s_X4_isDouble_f hm hn hx q (h0 ?_)
      rintro ⟨y, hy, e, z⟩
      rw [(nI_eq (by omega) (by omega)).mp e] at q
      exact q z
theorem s_hasOrNone_z {τ : kT} {n : Nat} {a : Int32} {post : Int32 → kT → Prop} (hm : q_i τ 2 5 = nI n) (hn : n ≤ 100) (h1 : z_or a (· < n) → post 1 τ) (h0 : ¬ z_or a (· < n) → post 0 τ) : T_X4_hasOrNone a τ post := by
  by_cases q : a = -1
  · subst q; exact s_X4_hasOrNone_n (h1 (Or.inl rfl))
  · by_cases q2 : inn a n
    · obtain ⟨x, hx, rfl⟩ := q2
      exact s_X4_hasOrNone_t hm (by omega) hx (h1 (Or.inr ⟨x, hx, rfl⟩))
    · refine s_X4_hasOrNone_f hm (by omega) q q2 (h0 ?_)
      rintro (z | ⟨x, hx, z⟩)
      · exact q z
      · exact q2 ⟨x, hx, z⟩
theorem r_dbl {τ : kT} {n : Nat} {a : Int32} (hn : n ≤ 100) {A B : Prop} (hx : ∃ x, x < n ∧ a = nI x) (h1 : dbl (q_i τ 67) n a → B) (h0 : ¬ dbl (q_i τ 67) n a → A) : ∃ j8 : Nat, ((0 : Int32) + a) = nI j8 ∧ j8 < 8530 ∧ ((¬ (q_i τ 67 j8) = (4 : Int32) → A) ∧ ((q_i τ 67 j8) = (4 : Int32) → B)) := by
  obtain ⟨x, hx, rfl⟩ := hx
  refine ⟨x, ev_0a x, by omega, fun q => h0 ?_, fun q => h1 ⟨x, hx, rfl, q⟩⟩
  rintro ⟨y, hy, e, z⟩
  rw [(nI_eq (by omega) (by omega)).mp e] at q
  exact q z
theorem r_twin {τ : kT} {n : Nat} {a b : Int32} {post : Int32 → kT → Prop} (hm : q_i τ 67 8522 = nI n) (hn : n ≤ 100) (ha : z_or a (· < n)) (hb : z_or b (· < n)) (hf : n = 100 → post (-4) τ) (hk : n ≠ 100 → (dbl (q_i τ 67) n a ∨ dbl (q_i τ 67) n b) → T_X11_met (3 : Int32) τ post) (hw : n ≠ 100 → ¬ dbl (q_i τ 67) n a → ¬ dbl (q_i τ 67) n b → T_X11_newCylinder (4 : Int32) (0 : Int32) a b τ post) : T_X11_twin a b τ post := by
  have n1 : ∀ {x : Nat}, x < n → ¬ nI x = -1 := fun h => nI_m1 (by omega)
  have nd : ¬ dbl (q_i τ 67) n (-1) := fun ⟨x, hx, e, _⟩ => n1 hx e.symm
  have hcnt : ∀ {A B : Prop}, (n ≠ 100 → A) → (n = 100 → B) → (¬ (q_i τ 67 8522) = (100 : Int32) → A) ∧ ((q_i τ 67 8522) = (100 : Int32) → B) := by
    intro A B hA hB
    rw [hm]
    exact ⟨fun q => hA (fun y => q (by rw [y]; rfl)), fun q => hB ((nI_eq (b := 100) (by omega) (by decide)).mp q)⟩
  have sw : ∀ {P A B : Prop}, ((¬ P → A) ∧ (P → B)) → ((P → B) ∧ (¬ P → A)) := fun h => ⟨h.2, h.1⟩
  unfold T_X11_twin
  rcases ha with rfl | ⟨x, hx, rfl⟩
  · rcases hb with rfl | ⟨y, hy, rfl⟩
    · exact br_t rfl (br_t rfl (hcnt (fun q => br_t rfl (br_t rfl (hw q nd nd))) hf))
    · have hy : y < n := hy
      exact br_t rfl (br_f (n1 hy) (s_X11_isCylinder_t hm (by omega) hy (bn_t (by decide) (hcnt (fun q => br_t rfl (br_f (n1 hy) (r_dbl hn ⟨y, hy, rfl⟩ (fun z => hk q (Or.inr z)) (fun z => hw q nd z)))) hf))))
  · have hx : x < n := hx
    have dx : ∀ {A B : Prop}, (¬ dbl (q_i τ 67) n (nI x) → A) → (dbl (q_i τ 67) n (nI x) → B) → ∃ j8 : Nat, ((0 : Int32) + nI x) = nI j8 ∧ j8 < 8530 ∧ (((q_i τ 67 j8) = (4 : Int32) → B) ∧ (¬ (q_i τ 67 j8) = (4 : Int32) → A)) := by
      intro A B hA hB
      obtain ⟨j, e, hj, h1, h2⟩ := r_dbl (τ := τ) (A := A) (B := B) hn ⟨x, hx, rfl⟩ hB hA
      exact ⟨j, e, hj, h2, h1⟩
    rcases hb with rfl | ⟨y, hy, rfl⟩
    · exact br_f (n1 hx) (s_X11_isCylinder_t hm (by omega) hx (br_f (by decide) (br_t rfl (hcnt (fun q => br_f (n1 hx) (dx (fun z => br_t rfl (hw q z nd)) (fun z => hk q (Or.inl z)))) hf))))
    · have hy : y < n := hy
      exact br_f (n1 hx) (s_X11_isCylinder_t hm (by omega) hx (br_f (by decide) (br_f (n1 hy) (s_X11_isCylinder_t hm (by omega) hy (bn_t (by decide) (hcnt (fun q => br_f (n1 hx) (dx (fun z => br_f (n1 hy) (r_dbl hn ⟨y, hy, rfl⟩ (fun z2 => hk q (Or.inr z2)) (fun z2 => hw q z z2))) (fun z => hk q (Or.inl z)))) hf))))))
theorem r_twin_bad {τ : kT} {n : Nat} {a b : Int32} {post : Int32 → kT → Prop} (hm : q_i τ 67 8522 = nI n) (hn : n ≤ 100) (h : ¬ z_or a (· < n) ∨ ¬ z_or b (· < n)) (hp : post (-2) τ) : T_X11_twin a b τ post := by
  have nz : ∀ {a : Int32}, ¬ z_or a (· < n) → a ≠ -1 ∧ ¬ inn a n := fun h => ⟨fun q => h (Or.inl q), fun ⟨x, hx, q⟩ => h (Or.inr ⟨x, hx, q⟩)⟩
  unfold T_X11_twin
  by_cases ha : z_or a (· < n)
  · have hb := nz (h.resolve_left (fun q => q ha))
    rcases ha with rfl | ⟨x, hx, rfl⟩
    · exact br_t rfl (br_f hb.1 (s_X11_isCylinder_f hm (by omega) hb.2 (bn_f rfl hp)))
    · have hx : x < n := hx
      exact br_f (nI_m1 (by omega)) (s_X11_isCylinder_t hm (by omega) hx (br_f (by decide) (br_f hb.1 (s_X11_isCylinder_f hm (by omega) hb.2 (bn_f rfl hp)))))
  · have ha := nz ha
    exact br_f ha.1 (s_X11_isCylinder_f hm (by omega) ha.2 (br_t rfl hp))
theorem k_twin_op : K_twin J := by
  intro a b τ hJ
  obtain ⟨nc, hnc, c1, c2, c3⟩ := hJ.nc
  unfold T_X10_twin T_X10_makeDouble
  have ed : ∀ x, dbl (q_i τ 3) nc x ↔ dbl (q_i τ 67) nc x := by
    intro x
    constructor
    · rintro ⟨y, hy, e, z⟩
      exact ⟨y, hy, e, by rw [← z]; exact (hJ.2.1.1 (1, y, 0) ⟨by rw [c3]; exact hy, rfl⟩).symm⟩
    · rintro ⟨y, hy, e, z⟩
      exact ⟨y, hy, e, by rw [← z]; exact hJ.2.1.1 (1, y, 0) ⟨by rw [c3]; exact hy, rfl⟩⟩
  refine s_hasOrNone_z c1 hnc (fun ha => br_f (by decide) ?_) (fun ha => br_t rfl (s_settle_bad (Or.inl rfl) (r_twin_bad c2 hnc (Or.inl ha) ⟨rfl, hJ⟩)))
  refine s_hasOrNone_z c1 hnc (fun hb => bn_t (by decide) ?_) (fun hb => bn_f rfl (s_settle_bad (Or.inl rfl) (r_twin_bad c2 hnc (Or.inr hb) ⟨rfl, hJ⟩)))
  by_cases hc : nc < 100
  case neg =>
    refine br_f (by rw [c1]; exact nI_nlt (b := 100) (by omega) (by omega)) (s_settle_bad (Or.inr (Or.inr rfl)) ?_)
    exact r_twin c2 hnc ha hb (fun _ => ⟨rfl, hJ⟩) (fun q => absurd (by omega) q) (fun q => absurd (by omega) q)
  refine br_t (by rw [c1]; exact nI_lt hc (by decide)) ?_
  have kind : (dbl (q_i τ 67) nc a ∨ dbl (q_i τ 67) nc b) → T_X10_settle (-13) τ (fun r3 τ4 => T_X11_twin a b τ4 (fun r2 τ2 => r3 = r2 ∧ J τ2)) := by
    intro h
    refine s_settle_met (f := 3) ⟨by decide, by decide⟩ (r_twin c2 hnc ha hb (fun q => absurd q (by omega)) (fun _ _ => s_met ⟨by decide, e_met hJ 3⟩) (fun _ z1 z2 => ?_))
    exact absurd h (fun y => y.elim z1 z2)
  refine s_isDouble_z c1 hnc ha (fun q => bn_t (by decide) (kind (Or.inl ((ed a).mp q)))) (fun q => bn_f rfl ?_)
  refine s_isDouble_z c1 hnc hb (fun q2 => br_f (by decide) (kind (Or.inr ((ed b).mp q2)))) (fun q2 => br_t rfl ?_)
  have q : ¬ dbl (q_i τ 67) nc a := fun y => q ((ed a).mpr y)
  have q2 : ¬ dbl (q_i τ 67) nc b := fun y => q2 ((ed b).mpr y)
  refine s_remember hJ (fun τr hr => ?_)
  have g : ∀ x, x < 19 → q_i τr (1 + x) = q_i τ (1 + x) := hr.now.1
  unfold T_X4_addDouble
  refine c_addC (c := nc) (n := 0) (a := 4) (by rw [g 1 (by decide)]; exact c1) hc (by omega) (fun τ1 w1 wx wl x25 x26 x3 x4 x5 x6 x7 => ⟨nc, rfl, hc, fun τ4 h4 => ⟨nc, rfl, hc, fun τ6 h6 => s_settle_n (by omega) ?_⟩⟩)
  have gx : ∀ x, x ≠ 6 → x ≠ 7 → q_i τ6 x = q_i τ1 x := fun x n6 n7 => by rw [h6, q_i_si, if_neg n7, h4, q_i_si, if_neg n6]
  have gl : ∀ x, q_l τ6 x = q_l τ1 x := fun x => by rw [h6, h4]; rfl
  have uu : ∀ (f : Nat → Int32) (i : Nat) (v w : Int32), upd (upd f i v) i w = upd f i w := fun f i v w => by
    funext k
    rw [upd_at, upd_at, upd_at]
    by_cases e : k = i
    · rw [if_pos e, if_pos e]
    · rw [if_neg e, if_neg e, if_neg e]
  have g6 : q_i τ6 6 = upd (q_i τr 6) nc a := by
    rw [h6, q_i_si, if_neg (by decide), h4, q_i_si, if_pos rfl, x6, uu]
  have g7 : q_i τ6 7 = upd (q_i τr 7) nc b := by
    rw [h6, q_i_si, if_pos rfl, h4, q_i_si, if_neg (by decide), x7, uu]
  have e67 : q_i (q_si τ6 0 4 0) 67 = q_i τ 67 := by
    show q_i τ6 67 = _
    rw [gx 67 (by decide) (by decide), w1.1 67 (by decide), hr.1 67 (by decide) (by decide)]
  have e66 : q_i (q_si τ6 0 4 0) 66 = q_i τ 66 := by
    show q_i τ6 66 = _
    rw [gx 66 (by decide) (by decide), w1.1 66 (by decide), hr.1 66 (by decide) (by decide)]
  have e68 : q_i (q_si τ6 0 4 0) 68 = q_i τ 68 := by
    show q_i τ6 68 = _
    rw [gx 68 (by decide) (by decide), w1.1 68 (by decide), hr.1 68 (by decide) (by decide)]
  refine r_twin (by rw [e67]; exact c2) hnc ha hb (fun q => absurd q (by omega)) (fun _ z => absurd z (by rw [e67]; exact fun y => y.elim q q2)) (fun _ _ _ => ?_)
  refine r_newC (by rw [e67, e68]; exact hJ.hz) (by rw [e67]; exact c2) hc (fun τ2 hR => ⟨rfl, ?_⟩)
  rw [e67, e66] at hR
  have zd : ∀ {v : Int32}, z_or v (· < nc) → ¬ dbl (q_i τ 67) nc v → z_or v (fun x => x < nc ∧ q_i τ 67 x ≠ 4) := by
    intro v hv hd
    rcases hv with z | ⟨x, hx, z⟩
    · exact Or.inl z
    · exact Or.inr ⟨x, ⟨hx, fun y => hd ⟨x, hx, z, y⟩⟩, z⟩
  exact J_newC (kd := 4) (n := 0) hJ hr c3 hc (by omega) (by omega) (fun _ => rfl) (zd ha q) (zd hb q2) ⟨fun x hx => by rw [gx x (by omega) (by omega)]; exact w1.1 x hx, fun x hx => by rw [gl]; exact w1.2 x hx⟩ (fun x hx => by rw [gx x (by omega) (by omega)]; exact wx x hx) (fun x => by rw [gl]; exact wl x) (by rw [gx 2 (by decide) (by decide)]; exact x25) (by rw [gx 2 (by decide) (by decide)]; exact x26) (by rw [gx 3 (by decide) (by decide)]; exact x3) (by rw [gx 4 (by decide) (by decide)]; exact x4) (by rw [gx 5 (by decide) (by decide)]; exact x5) g6 g7 hR
