/-! ===== the reference's turning ===== -/
def lt (b : Int32) (l : List Int32) : List Int32 := if b = 0 then [] else l
theorem lt_cons (b w : Int32) (l : List Int32) : lt b (w :: l) = lt b [w] ++ lt b l := by
  unfold lt
  by_cases h : b = 0
  · rw [if_pos h, if_pos h, if_pos h]; rfl
  · rw [if_neg h, if_neg h, if_neg h]; rfl
theorem lt_app (b : Int32) (l l2 : List Int32) : lt b (l ++ l2) = lt b l ++ lt b l2 := by
  unfold lt
  by_cases h : b = 0
  · rw [if_pos h, if_pos h, if_pos h]; rfl
  · rw [if_neg h, if_neg h, if_neg h]
theorem lt_len (b : Int32) (l : List Int32) : (lt b l).length ≤ l.length := by
  unfold lt
  split
  · exact Nat.zero_le _
  · exact Nat.le_refl _
def RS (τ τ2 : kT) (n : Nat) (f : Nat → Int32) (sp : Int32) : Prop := (∀ x, x ≠ 66 → x ≠ 69 → q_i τ2 x = q_i τ x) ∧ (∀ x, q_l τ2 x = q_l τ x) ∧ (∀ k, k ≠ 9 → k ≠ 7 → q_i τ2 66 k = q_i τ 66 k) ∧ q_i τ2 66 9 = nI n ∧ q_i τ2 69 = f ∧ q_i τ2 66 7 = sp
theorem r_note {τ τ2 : kT} {n : Nat} {f : Nat → Int32} {sp w b : Int32} {post : kT → Prop} (hT : RS τ τ2 n f sp) (hn : n < 2 ^ 30) (h : ∀ τ3, RS τ τ3 (n + (lt b [w]).length) (pshL n f (lt b [w])) sp → post τ3) : T_X11_note w b τ2 post := by
  obtain ⟨t1, t2, t3, t4, t5, t6⟩ := id hT
  unfold T_X11_note
  refine ⟨fun hb => h τ2 ?_, fun hb => ?_⟩
  · have e : lt b [w] = [] := by unfold lt; rw [if_pos hb]
    rw [e]; exact hT
  have e : lt b [w] = [w] := by unfold lt; rw [if_neg hb]
  rw [e] at h
  rw [t4]
  refine ⟨fun q τ3 h3 => ?_, fun q => ?_⟩
  · have q : ¬ n < 40 := fun y => nI_ge (b := 40) y (by decide) q
    have h3 : τ3 = q_si τ2 66 9 (nI (n + 1)) := by rw [h3]; exact congrArg (q_si τ2 66 9) (nI_1 n)
    refine h τ3 ⟨fun x n1 n2 => ?_, fun x => ?_, fun k n1 n2 => ?_, ?_, ?_, ?_⟩
    · rw [h3, q_i_si, if_neg n1]; exact t1 x n1 n2
    · rw [h3]; exact t2 x
    · rw [h3, q_i_si, if_pos rfl, upd_at, if_neg n1]; exact t3 k n1 n2
    · rw [h3]; rfl
    · rw [h3]; show _ = psh n f w; unfold psh; rw [if_neg q]; exact t5
    · rw [h3]; exact t6
  · have q : n < 40 := by
      rcases Nat.lt_or_ge n 40 with y | y
      · exact y
      · exact absurd (nI_le (a := 40) y (by omega)) q
    refine ⟨n, rfl, q, fun τ4 h4 τ5 h5 => ?_⟩
    have e4 : q_i τ4 66 9 = nI n := by rw [h4]; exact t4
    rw [e4] at h5
    have h5 : τ5 = q_si τ4 66 9 (nI (n + 1)) := by rw [h5]; exact congrArg (q_si τ4 66 9) (nI_1 n)
    refine h τ5 ⟨fun x n1 n2 => ?_, fun x => ?_, fun k n1 n2 => ?_, ?_, ?_, ?_⟩
    · rw [h5, q_i_si, if_neg n1, h4, q_i_si, if_neg n2]; exact t1 x n1 n2
    · rw [h5, h4]; exact t2 x
    · rw [h5, q_i_si, if_pos rfl, upd_at, if_neg n1, h4]; exact t3 k n1 n2
    · rw [h5]; rfl
    · rw [h5, h4]; show _ = psh n f w; unfold psh; rw [if_pos q, ← t5]; rfl
    · rw [h5, h4]; exact t6
theorem RS.spot {τ τ2 : kT} {n : Nat} {f : Nat → Int32} {sp v : Int32} (hT : RS τ τ2 n f sp) : RS τ (q_si τ2 66 7 v) n f v := by
  obtain ⟨t1, t2, t3, t4, t5, t6⟩ := hT
  exact ⟨fun x n1 n2 => by rw [q_i_si, if_neg n1]; exact t1 x n1 n2, t2, fun k n1 n2 => by rw [q_i_si, if_pos rfl, upd_at, if_neg n2]; exact t3 k n1 n2, t4, t5, rfl⟩
/-- what InvS gives of a row, of a key -/
theorem InvS.row {s : Nat → Int32} (h : InvS s) {c : Nat} (hc : c < N s 8522) : (s (100 + c) = -1 ∧ s c = 2) ∨ ∃ r, r ≤ 18 ∧ s (100 + c) = nI r ∧ N s (100 + c) = r := by
  obtain ⟨-, p2, p3, -⟩ := h.2.2.2.2.2.2.2.1 c hc
  rcases p2 with q | ⟨r, hr, q⟩
  · exact Or.inl ⟨q, p3 q⟩
  · have hr : r ≤ 18 := hr
    refine Or.inr ⟨r, hr, q, ?_⟩
    unfold N
    rw [q, nI_clamp (by omega)]
theorem InvS.hts {s : Nat → Int32} (h : InvS s) {c i : Nat} (hc : c < N s 8522) (hi : i < 18) : ∃ m, m < 1024 ∧ s (400 + 18 * c + i) = nI m ∧ N s (400 + 18 * c + i) = m := by
  obtain ⟨p1, p2, p3, -⟩ := h.2.2.2.2.2.2.2.2.1 c i hc hi
  exact ⟨_, p2, p1, rfl⟩
theorem InvS.len {s : Nat → Int32} (h : InvS s) {k : Nat} (hk : k < N s 8523) : s (2200 + k) = nI (N s (2200 + k)) ∧ N s (2200 + k) ≤ 18 := (h.2.2.2.2.2.2.2.2.2.2.1 k hk).1
theorem r_row {τ τ2 : kT} {n : Nat} {f : Nat → Int32} {sp b v3 : Int32} (hI : InvS (q_i τ 67)) (hT : RS τ τ2 n f sp) {k c r fr : Nat} (hk : k < N (q_i τ 67) 8523) (hc : c < N (q_i τ 67) 8522) (hr : q_i τ 67 (100 + c) = nI r) (hr2 : r ≤ 18) (hfr : fr ≤ 18) {post : Int32 → kT → Prop}
    (h : ∀ τ3, RS τ τ3 n f (spO fr (rowT (q_i τ 67) k c r 0) sp) → post (cR (rowT (q_i τ 67) k c r 0).1) τ3) : ∃ m, L_X11_tried_125 (nI c) (nI k) (nI fr) b v3 (fun v36 τ37 => (∃ j38 : Nat, ((100 : Int32) + nI c) = nI j38 ∧ j38 < 8530 ∧ ((0 ≤ (q_i τ37 67 j38) → post (1 : Int32) τ37) ∧ (¬ 0 ≤ (q_i τ37 67 j38) → post (-1 : Int32) τ37)))) post m (0 : Int32) τ2 := by
  have hb := hI.bnd
  have hk100 : k < 100 := Nat.lt_of_lt_of_le hk hb.2.1
  have hc100 : c < 100 := Nat.lt_of_lt_of_le hc hb.1
  obtain ⟨l2, hl⟩ := hI.len hk
  have e67 : q_i τ2 67 = q_i τ 67 := hT.1 67 (by decide) (by decide)
  have key : ∀ m j, j + m = r → (∀ τ3, RS τ τ3 n f (spO fr (rowT (q_i τ 67) k c m j) sp) → post (cR (rowT (q_i τ 67) k c m j).1) τ3) → L_X11_tried_125 (nI c) (nI k) (nI fr) b v3 (fun v36 τ37 => (∃ j38 : Nat, ((100 : Int32) + nI c) = nI j38 ∧ j38 < 8530 ∧ ((0 ≤ (q_i τ37 67 j38) → post (1 : Int32) τ37) ∧ (¬ 0 ≤ (q_i τ37 67 j38) → post (-1 : Int32) τ37)))) post (m + 1) (nI j) τ2 := by
    intro m
    induction m with
    | zero =>
      intro j hj h
      unfold L_X11_tried_125
      refine ⟨100 + c, nI_add 100 c, by omega, br_t (by rw [e67, hr]; exact nI_le (by omega) (by omega)) ⟨100 + c, nI_add 100 c, by omega, br_t (by rw [e67, hr]; exact nI_pos' (by omega)) (h τ2 hT)⟩⟩
    | succ m ih =>
      intro j hj h
      obtain ⟨hm, m0, m2, eN⟩ := hI.hts hc (i := j) (by omega)
      unfold L_X11_tried_125
      refine ⟨100 + c, nI_add 100 c, by omega, br_f (by rw [e67, hr]; exact nI_ge (by omega) (by omega)) ⟨400 + 18 * c + j, ev_3 400 18 c j, by omega, fun v12 h12 => ⟨2200 + k, nI_add 2200 k, by omega, ?_⟩⟩⟩
      have h12 : v12 = nI hm := by rw [h12, e67]; exact m2
      rw [e67, l2]
      have skip : v12 = 0 → ∀ v16 : Int32, v16 = nI j + (1 : Int32) → L_X11_tried_125 (nI c) (nI k) (nI fr) b v3 (fun v36 τ37 => (∃ j38 : Nat, ((100 : Int32) + nI c) = nI j38 ∧ j38 < 8530 ∧ ((0 ≤ (q_i τ37 67 j38) → post (1 : Int32) τ37) ∧ (¬ 0 ≤ (q_i τ37 67 j38) → post (-1 : Int32) τ37)))) post (m + 1) v16 τ2 := by
        intro q v15 h15
        rw [h15, show nI j + 1 = nI (j + 1) from nI_1 j]
        have e : rowT (q_i τ 67) k c (m + 1) j = rowT (q_i τ 67) k c m (j + 1) := by
          conv => lhs; unfold rowT
          rw [if_pos (by rw [m2, ← h12]; exact q)]
        rw [e] at h
        exact ih (j + 1) (by omega) h
      refine ⟨fun q2 => ⟨skip, fun q => bn_f rfl ?_⟩, fun q2 => ⟨skip, fun q => ⟨fun _ τ28 h28 => br_f (by decide) ?_, fun z => absurd z (by decide)⟩⟩⟩
      · have q2 := (nI_ltI (by omega) (by omega)).mp q2
        obtain ⟨d1, d2⟩ := hI.2.2.2.2.2.2.2.2.2.2.2.1 k j hk q2
        refine ⟨2300 + 18 * k + j, ev_3 2300 18 k j, by omega, ?_⟩
        have s0 : q_i τ 67 (400 + 18 * c + j) ≠ 0 := by rw [m2, ← h12]; exact q
        have eb : (v12 >>> ((q_i τ 67 (2300 + 18 * k + j)) &&& 31)) &&& (1 : Int32) = nI ((hm.testBit (N (q_i τ 67) (2300 + 18 * k + j))).toNat) := by
          rw [d1, h12, b_shr (by omega) (by omega), show (1 : Int32) = nI 1 from rfl, b_and, b_bit]
        rw [eb]
        refine ⟨fun q3 v12 h12 => ?_, fun q3 τ13 h13 => br_t rfl ?_⟩
        · rw [h12, show nI j + 1 = nI (j + 1) from nI_1 j]
          have tb : hm.testBit (N (q_i τ 67) (2300 + 18 * k + j)) = true := by
            cases z : hm.testBit (N (q_i τ 67) (2300 + 18 * k + j)) with
            | true => rfl
            | false => rw [z] at q3; exact absurd rfl q3
          have e : rowT (q_i τ 67) k c (m + 1) j = rowT (q_i τ 67) k c m (j + 1) := by
            conv => lhs; unfold rowT
            rw [if_neg s0, if_neg (by omega), eN, tb, if_pos rfl]
          rw [e] at h
          exact ih (j + 1) (by omega) h
        · have tb : hm.testBit (N (q_i τ 67) (2300 + 18 * k + j)) = false := by
            cases z : hm.testBit (N (q_i τ 67) (2300 + 18 * k + j)) with
            | false => rfl
            | true => rw [z] at q3; exact absurd q3 (by decide)
          have e : rowT (q_i τ 67) k c (m + 1) j = (0, j) := by
            conv => lhs; unfold rowT
            rw [if_neg s0, if_neg (by omega), eN, tb, if_neg (by decide)]
          rw [e] at h
          refine h τ13 ?_
          rw [h13, nI_add]
          exact hT.spot
      · have q2 : ¬ j < N (q_i τ 67) (2200 + k) := fun y => q2 ((nI_ltI (by omega) (by omega)).mpr y)
        have s0 : q_i τ 67 (400 + 18 * c + j) ≠ 0 := by rw [m2, ← h12]; exact q
        have e : rowT (q_i τ 67) k c (m + 1) j = (2, j) := by
          conv => lhs; unfold rowT
          rw [if_neg s0, if_pos (by omega)]
        rw [e] at h
        refine h τ28 ?_
        rw [h28, nI_add]
        exact hT.spot
  exact ⟨r + 1, key r 0 (by omega) h⟩
theorem r_single {τ τ2 : kT} {n : Nat} {f : Nat → Int32} {sp v b : Int32} (hI : InvS (q_i τ 67)) (hT : RS τ τ2 n f sp) (hn : n < 2 ^ 20) {k fr : Nat} (hk : k < N (q_i τ 67) 8523) (hv : z_or v (fun x => x < N (q_i τ 67) 8522 ∧ q_i τ 67 x ≠ 4)) (hfr : fr ≤ 18) {post : Int32 → kT → Prop} (n0 : Nat)
    (h : ∀ τ3, RS τ τ3 (n + (lt b (tgS (q_i τ 67) v)).length) (pshL n f (lt b (tgS (q_i τ 67) v))) (spO fr (rwS (q_i τ 67) k v) sp) → post (cR (rwS (q_i τ 67) k v).1) τ3) : T_X11_tried (n0 + 1) v (nI k) (nI fr) b τ2 post := by
  have hb := hI.bnd
  have e67 : ∀ {τ' : kT} {n' f' sp'}, RS τ τ' n' f' sp' → q_i τ' 67 = q_i τ 67 := fun hT => hT.1 67 (by decide) (by decide)
  unfold T_X11_tried
  rcases hv with rfl | ⟨c, ⟨hcN, h4⟩, rfl⟩
  · refine bn_f rfl ?_
    have e1 : rwS (q_i τ 67) k (-1) = (3, 0) := rfl
    have e2 : tgS (q_i τ 67) (-1) = [] := rfl
    rw [e1, e2] at h
    have e3 : lt b [] = [] := by unfold lt; split <;> rfl
    rw [e3] at h
    exact h τ2 hT
  · have hc100 : c < 100 := Nat.lt_of_lt_of_le hcN hb.1
    have ev : (nI c).toNatClampNeg = c := nI_clamp (by omega)
    have e1 : rwS (q_i τ 67) k (nI c) = rw1 (q_i τ 67) k c := by unfold rwS; rw [if_neg (nI_m1 (by omega)), ev]
    have e2 : tgS (q_i τ 67) (nI c) = tg1 (q_i τ 67) c := by unfold tgS; rw [if_neg (nI_m1 (by omega)), ev]
    rw [e1, e2] at h
    refine bn_t (nI_m1 (by omega)) ⟨c, ev_0a c, by omega, fun v3 h3 => ?_⟩
    have h3 : v3 = q_i τ 67 c := by rw [h3, e67 hT]
    have fin : q_i τ 67 c ≠ 3 → ∀ n' f' τ5, RS τ τ5 n' f' sp → n' = n + (lt b (tg1 (q_i τ 67) c)).length → f' = pshL n f (lt b (tg1 (q_i τ 67) c)) → ∃ m, L_X11_tried_125 (nI c) (nI k) (nI fr) b v3 (fun v36 τ37 => (∃ j38 : Nat, ((100 : Int32) + nI c) = nI j38 ∧ j38 < 8530 ∧ ((0 ≤ (q_i τ37 67 j38) → post (1 : Int32) τ37) ∧ (¬ 0 ≤ (q_i τ37 67 j38) → post (-1 : Int32) τ37)))) post m (0 : Int32) τ5 := by
      intro q3 n' f' τ5 h5 en ef
      subst en ef
      rcases hI.row hcN with ⟨z2, z3⟩ | ⟨r, hr, z2, z3⟩
      · have e : rw1 (q_i τ 67) k c = (3, 0) := by unfold rw1; rw [if_neg q3, if_pos z2]
        rw [e] at h
        refine ⟨1, ?_⟩
        unfold L_X11_tried_125
        exact ⟨100 + c, nI_add 100 c, by omega, br_t (by rw [e67 h5, z2]; decide) ⟨100 + c, nI_add 100 c, by omega, br_f (by rw [e67 h5, z2]; decide) (h τ5 h5)⟩⟩
      · have e : rw1 (q_i τ 67) k c = rowT (q_i τ 67) k c r 0 := by unfold rw1; rw [if_neg q3, if_neg (by rw [z2]; exact nI_m1 (by omega)), z3]
        rw [e] at h
        exact r_row hI h5 hk hcN z2 hr hfr h
    rw [h3]
    rw [h3] at fin
    refine bn_t h4 ⟨fun q => ⟨fun q0 => ?_, fun q0 => ?_⟩, fun q => ?_⟩
    · have e3 : tg1 (q_i τ 67) c = [1] := by unfold tg1; rw [if_neg q, if_pos q0]
      exact r_note hT (by omega) (fun τ5 h5 => fin q _ _ τ5 h5 (by rw [e3]) (by rw [e3]))
    · have e3 : tg1 (q_i τ 67) c = [2, 1] := by unfold tg1; rw [if_neg q, if_neg q0]
      have l1 := lt_len b [2]
      refine r_note hT (by omega) (fun τ5 h5 => r_note h5 (by simp at l1; omega) (fun τ6 h6 => fin q _ _ τ6 h6 ?_ ?_))
      · rw [e3, lt_cons b 2 [1], List.length_append, Nat.add_assoc]
      · rw [e3, lt_cons b 2 [1], pshL_app]
    · have e : rw1 (q_i τ 67) k c = (0, 0) := by unfold rw1; rw [if_pos q]
      have e3 : tg1 (q_i τ 67) c = [3] := by unfold tg1; rw [if_pos q]
      rw [e, e3] at h
      refine r_note hT (by omega) (fun τ5 h5 τ6 h6 => h τ6 ?_)
      rw [h6]
      exact h5.spot
theorem r_tried {τ τ2 : kT} {n : Nat} {f : Nat → Int32} {sp v b : Int32} (hI : InvS (q_i τ 67)) (hT : RS τ τ2 n f sp) (hn : n < 2 ^ 19) {k : Nat} (hk : k < N (q_i τ 67) 8523) (hv : z_or v (fun x => x < N (q_i τ 67) 8522)) {post : Int32 → kT → Prop}
    (h : ∀ τ3, RS τ τ3 (n + (lt b (tgK (q_i τ 67) k v)).length) (pshL n f (lt b (tgK (q_i τ 67) k v))) (spO 0 (rwK (q_i τ 67) k v) sp) → post (cR (rwK (q_i τ 67) k v).1) τ3) : T_X11_tried 2 v (nI k) 0 b τ2 post := by
  have hb := hI.bnd
  have e67 : ∀ {τ' : kT} {n' f' sp'}, RS τ τ' n' f' sp' → q_i τ' 67 = q_i τ 67 := fun hT => hT.1 67 (by decide) (by decide)
  by_cases h4 : ∃ c, c < N (q_i τ 67) 8522 ∧ v = nI c ∧ q_i τ 67 c = 4
  · obtain ⟨c, hcN, rfl, h4⟩ := h4
    have hc100 : c < 100 := Nat.lt_of_lt_of_le hcN hb.1
    have ev : (nI c).toNatClampNeg = c := nI_clamp (by omega)
    have e1 : rwK (q_i τ 67) k (nI c) = if (rwS (q_i τ 67) k (q_i τ 67 (200 + c))).1 = 1 then ((rwS (q_i τ 67) k (q_i τ 67 (300 + c))).1, 18 + (rwS (q_i τ 67) k (q_i τ 67 (300 + c))).2) else rwS (q_i τ 67) k (q_i τ 67 (200 + c)) := by
      unfold rwK; rw [if_neg (nI_m1 (by omega)), ev, if_pos h4]
    have e2 : tgK (q_i τ 67) k (nI c) = 4 :: (tgS (q_i τ 67) (q_i τ 67 (200 + c)) ++ (if (rwS (q_i τ 67) k (q_i τ 67 (200 + c))).1 = 1 then tgS (q_i τ 67) (q_i τ 67 (300 + c)) else [])) := by
      unfold tgK; rw [if_neg (nI_m1 (by omega)), ev, if_pos h4]
    rw [e1, e2] at h
    obtain ⟨-, -, -, -, p5, p6⟩ := hI.2.2.2.2.2.2.2.1 c hcN
    have l4 := lt_len b [4]
    have l4 : (lt b [4]).length ≤ 1 := l4
    have hl := Nat.le_trans (lt_len b (tgS (q_i τ 67) (q_i τ 67 (200 + c)))) (tgS_len (q_i τ 67) (q_i τ 67 (200 + c)))
    unfold T_X11_tried
    refine bn_t (nI_m1 (by omega)) ⟨c, ev_0a c, by omega, fun v3 h3 => bn_f (by rw [h3, e67 hT]; exact h4) ?_⟩
    refine r_note hT (by omega) (fun τ5 h5 => ⟨200 + c, nI_add 200 c, by omega, ?_⟩)
    rw [e67 h5]
    refine r_single (fr := 0) hI h5 (by omega) hk p5 (by omega) 0 (fun τ6 h6 => ⟨fun q => ⟨300 + c, nI_add 300 c, by omega, ?_⟩, fun q => ?_⟩)
    · have q := (cR_1 (rwS_1 _ _ _)).mp q
      rw [if_pos q, if_pos q] at h
      rw [e67 h6]
      refine r_single (fr := 18) hI h6 (by omega) hk p6 (by omega) 0 (fun τ7 h7 => h τ7 ?_)
      rw [spO_1 q] at h7
      have es : spO 0 ((rwS (q_i τ 67) k (q_i τ 67 (300 + c))).1, 18 + (rwS (q_i τ 67) k (q_i τ 67 (300 + c))).2) sp = spO 18 (rwS (q_i τ 67) k (q_i τ 67 (300 + c))) sp := by unfold spO; rw [Nat.zero_add]
      rw [es, lt_cons, lt_app, pshL_app, pshL_app, List.length_append, List.length_append]
      rw [show n + ((lt b [4]).length + ((lt b (tgS (q_i τ 67) (q_i τ 67 (200 + c)))).length + (lt b (tgS (q_i τ 67) (q_i τ 67 (300 + c)))).length)) = n + (lt b [4]).length + (lt b (tgS (q_i τ 67) (q_i τ 67 (200 + c)))).length + (lt b (tgS (q_i τ 67) (q_i τ 67 (300 + c)))).length by omega]
      exact h7
    · have q : ¬ (rwS (q_i τ 67) k (q_i τ 67 (200 + c))).1 = 1 := fun y => q ((cR_1 (rwS_1 _ _ _)).mpr y)
      rw [if_neg q, if_neg q] at h
      refine h τ6 ?_
      rw [List.append_nil, lt_cons, pshL_app, List.length_append, ← Nat.add_assoc]
      exact h6
  · have hv2 : z_or v (fun x => x < N (q_i τ 67) 8522 ∧ q_i τ 67 x ≠ 4) := by
      rcases hv with q | ⟨c, hc, q⟩
      · exact Or.inl q
      · exact Or.inr ⟨c, ⟨hc, fun y => h4 ⟨c, hc, q, y⟩⟩, q⟩
    have e1 : rwK (q_i τ 67) k v = rwS (q_i τ 67) k v := by
      unfold rwK rwS
      rcases hv2 with rfl | ⟨c, ⟨hc, n4⟩, rfl⟩
      · rfl
      · have hc100 : c < 100 := Nat.lt_of_lt_of_le hc hb.1
        rw [if_neg (nI_m1 (by omega)), if_neg (nI_m1 (by omega)), nI_clamp (by omega), if_neg n4]
    have e2 : tgK (q_i τ 67) k v = tgS (q_i τ 67) v := by
      unfold tgK tgS
      rcases hv2 with rfl | ⟨c, ⟨hc, n4⟩, rfl⟩
      · rfl
      · have hc100 : c < 100 := Nat.lt_of_lt_of_le hc hb.1
        rw [if_neg (nI_m1 (by omega)), if_neg (nI_m1 (by omega)), nI_clamp (by omega), if_neg n4]
    rw [e1, e2] at h
    exact r_single (fr := 0) hI hT (by omega) hk hv2 (by omega) 1 h
/-! findings behind a turning -/
def fdC (n : Nat) : Int32 := if n = 2 then 2 else if n = 3 then 1 else 0
def fiC (n : Nat) : Int32 := if n = 2 then 1 else if n = 3 then 1 else 0
def SC (τ τ2 : kT) (a b : Int32) : Prop := (∀ x, x ≠ 0 → q_i τ2 x = q_i τ x) ∧ (∀ x, q_l τ2 x = q_l τ x) ∧ (∀ k, k ≠ 4 → k ≠ 5 → q_i τ2 0 k = q_i τ 0 k) ∧ q_i τ2 0 4 = a ∧ q_i τ2 0 5 = q_i τ 0 5 + b
def SR (τ τ2 : kT) (a b : Int32) : Prop := (∀ x, x ≠ 66 → q_i τ2 x = q_i τ x) ∧ (∀ x, q_l τ2 x = q_l τ x) ∧ (∀ k, k ≠ 4 → k ≠ 5 → q_i τ2 66 k = q_i τ 66 k) ∧ q_i τ2 66 4 = a ∧ q_i τ2 66 5 = q_i τ 66 5 + b
theorem SC_0 (τ : kT) : SC τ (q_si τ 0 4 0) 0 0 := ⟨fun x h => by rw [q_i_si, if_neg h], fun _ => rfl, fun k h4 _ => by rw [q_i_si, if_pos rfl, upd_at, if_neg h4], rfl, (Int32.add_zero _).symm⟩
theorem SC_1 (τ : kT) (f : Int32) : SC τ (q_si (q_si τ 0 4 f) 0 5 (q_i τ 0 5 + 1)) f 1 := ⟨fun x h => by rw [q_i_si, if_neg h, q_i_si, if_neg h], fun _ => rfl, fun k h4 h5 => by rw [q_i_si, if_pos rfl, upd_at, if_neg h5, q_i_si, if_pos rfl, upd_at, if_neg h4], rfl, rfl⟩
theorem SR_0 (τ : kT) : SR τ (q_si τ 66 4 0) 0 0 := ⟨fun x h => by rw [q_i_si, if_neg h], fun _ => rfl, fun k h4 _ => by rw [q_i_si, if_pos rfl, upd_at, if_neg h4], rfl, (Int32.add_zero _).symm⟩
theorem SR_1 (τ : kT) (f : Int32) : SR τ (q_si (q_si τ 66 4 f) 66 5 (q_i τ 66 5 + 1)) f 1 := ⟨fun x h => by rw [q_i_si, if_neg h, q_i_si, if_neg h], fun _ => rfl, fun k h4 h5 => by rw [q_i_si, if_pos rfl, upd_at, if_neg h5, q_i_si, if_pos rfl, upd_at, if_neg h4], rfl, rfl⟩
theorem s_settle_c {n : Nat} (hn : n ≤ 3) {τ : kT} {post : Int32 → kT → Prop} (h : ∀ τ2, SC τ τ2 (fdC n) (fiC n) → post (cC n) τ2) : T_X10_settle (cC n) τ post := by
  rcases (by omega : n = 0 ∨ n = 1 ∨ n = 2 ∨ n = 3) with rfl | rfl | rfl | rfl
  · exact s_settle_n (n := 0) (by decide) (h _ (SC_0 τ))
  · exact s_settle_n (n := 1) (by decide) (h _ (SC_0 τ))
  · exact s_settle_met (f := 2) ⟨by decide, by decide⟩ (h _ (SC_1 τ 2))
  · exact s_settle_met (f := 1) ⟨by decide, by decide⟩ (h _ (SC_1 τ 1))
theorem r_end {n : Nat} (hn : n ≤ 3) {τ : kT} {post : Int32 → kT → Prop} (h : ∀ τ2, SR τ τ2 (fdC n) (fiC n) → post (cC n) τ2) : ((0 ≤ cR n → (T_X11_well (cR n) τ (fun r7 τ8 => post r7 τ8))) ∧ (¬ 0 ≤ cR n → (T_X11_lacks (cR n) τ (fun r9 τ10 => post r9 τ10)))) := by
  unfold T_X11_lacks
  rcases (by omega : n = 0 ∨ n = 1 ∨ n = 2 ∨ n = 3) with rfl | rfl | rfl | rfl
  · exact br_t (by decide) (s_well (h _ (SR_0 τ)))
  · exact br_t (by decide) (s_well (h _ (SR_0 τ)))
  · exact br_f (by decide) (bn_t (by decide) (s_met (h _ (SR_1 τ 2))))
  · exact br_f (by decide) (bn_f (by decide) (s_met (h _ (SR_1 τ 1))))
/-- J behind a turning: class τ → τ1 → τ2, reference τ2 → τ3 → τ4 → τ5 -/
theorem J_turn {τ τ1 τ2 τ3 τ4 τ5 : kT} {n : Nat} {f g : Nat → Int32} {sp a b : Int32} (hJ : J τ) (h1 : TS τ τ1 n f sp) (h2 : SC τ1 τ2 a b) (h3 : RS τ2 τ3 n g sp) (h4 : τ4 = q_si τ3 66 6 sp) (h5 : SR τ4 τ5 a b) (hn : n ≤ 1000) (hfg : ∀ i, i < 40 → i < n → g i = f i) : J τ5 := by
  obtain ⟨t1, t2, t3, t4, t5⟩ := h1
  obtain ⟨c1, c2, c3, c4, c5⟩ := h2
  obtain ⟨r1, r2, r3, r4, r5, r6⟩ := h3
  obtain ⟨u1, u2, u3, u4, u5⟩ := h5
  have w4 : ∀ x, x ≠ 66 → q_i τ4 x = q_i τ3 x := fun x hx => by rw [h4, q_i_si, if_neg hx]
  have w46 : ∀ k, k ≠ 6 → q_i τ4 66 k = q_i τ3 66 k := fun k hk => by rw [h4, q_i_si, if_pos rfl, upd_at, if_neg hk]
  have g0 : ∀ x, x ≠ 66 → x ≠ 69 → x ≠ 0 → q_i τ5 x = q_i τ1 x := fun x n1 n2 n3 => by rw [u1 x n1, w4 x n1, r1 x n1 n2, c1 x n3]
  have g1 : ∀ x, x ≠ 66 → x ≠ 69 → x ≠ 0 → x ≠ 39 → x ≠ 40 → x ≠ 41 → q_i τ5 x = q_i τ x := fun x n1 n2 n3 n4 n5 n6 => by rw [g0 x n1 n2 n3, t1 x n4 n5 n6]
  have gl : ∀ x, q_l τ5 x = q_l τ x := fun x => by rw [u2, show q_l τ4 = q_l τ3 by rw [h4]; rfl, r2, c2, t2]
  have g00 : ∀ k, q_i τ5 0 k = q_i τ2 0 k := fun k => by rw [u1 0 (by decide), w4 0 (by decide), r1 0 (by decide) (by decide)]
  have g66 : ∀ k, k ≠ 4 → k ≠ 5 → k ≠ 6 → k ≠ 7 → k ≠ 9 → q_i τ5 66 k = q_i τ 66 k := fun k n4 n5 n6 n7 n9 => by rw [u3 k n4 n5, w46 k n6, r3 k n9 n7, c1 66 (by decide), t1 66 (by decide) (by decide) (by decide)]
  have g0k : ∀ k, k ≠ 4 → k ≠ 5 → q_i τ5 0 k = q_i τ 0 k := fun k n4 n5 => by rw [g00 k, c3 k n4 n5, t1 0 (by decide) (by decide) (by decide)]
  obtain ⟨-, -, -, -, -, ⟨s3, s4, s5⟩, a7, a8, a9, -⟩ := id hJ
  have e40 : q_i τ5 40 1 = nI n := by rw [g0 40 (by decide) (by decide) (by decide)]; exact t3
  have eN : N (q_i τ5 40) 1 = n := by unfold N; rw [e40, nI_clamp (by omega)]
  refine hJ.keep ⟨fun x x1 x2 => g1 x (by omega) (by omega) (by omega) (by omega) (by omega) (by omega), fun x _ _ => gl x, g1 67 (by decide) (by decide) (by decide) (by decide) (by decide) (by decide), g1 68 (by decide) (by decide) (by decide) (by decide) (by decide) (by decide)⟩ ⟨g0k 2 (by decide) (by decide), g66 2 (by decide) (by decide) (by decide) (by decide) (by decide)⟩ ⟨?_, ?_, ?_⟩ ?_ ?_ ⟨?_, ?_, ?_, ?_⟩ (by rw [g1 65 (by decide) (by decide) (by decide) (by decide) (by decide) (by decide)])
  · rw [g66 3 (by decide) (by decide) (by decide) (by decide) (by decide), g0k 3 (by decide) (by decide)]; exact s3
  · rw [u4, g00, c4]
  · rw [u5, g00, c5, w46 5 (by decide), r3 5 (by decide) (by decide), c1 66 (by decide), t1 66 (by decide) (by decide) (by decide), t1 0 (by decide) (by decide) (by decide), s5]
  · rw [u3 6 (by decide) (by decide), h4, g0 39 (by decide) (by decide) (by decide), t5]; rfl
  · rw [g66 10 (by decide) (by decide) (by decide) (by decide) (by decide), g1 45 (by decide) (by decide) (by decide) (by decide) (by decide) (by decide)]; exact a8
  · rw [u3 9 (by decide) (by decide), w46 9 (by decide), r4, e40]
  · rw [eN]; exact e40
  · rw [eN]; exact hn
  · intro i h40 hi
    rw [eN] at hi
    rw [u1 69 (by decide), w4 69 (by decide), r5, g0 41 (by decide) (by decide) (by decide), t4]
    exact hfg i h40 hi
