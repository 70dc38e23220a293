/-! ===== the reference: nevers ===== -/
theorem RRel.cutOf {τ0 τ : kT} {k d n sp lo T tr : Nat} {lv : Int32} {lc g : Nat → Nat} (hS : Sz k d n sp lo T lv) (hlc : ∀ c, c < n → lc c ≤ 9) (hR : RRel τ0 τ k n lo lc (T * n) g tr) {y : Nat} (hy : y < k) : ∀ c, c < n → q_i τ 70 (5 * y + c) = nI (gk g lc lo n y c) ∧ gk g lc lo n y c ≤ 9 := by
  intro c hc
  unfold gk
  by_cases e : y = lo
  · rw [if_pos e, e]
    exact ⟨hR.2.2 (by omega) c hc, hlc c hc⟩
  · rw [if_neg e]
    have ht := hS.2.2.2.2.2.2.2.2.2 y hy e
    have := hR.2.1 _ (dm_lt hc ht)
    rw [ix_of hc] at this
    have ek : key lo (if y < lo then y else y - 1) = y := by
      unfold key
      by_cases q : y < lo
      · rw [if_pos q, if_pos q]
      · rw [if_neg q, if_neg (by omega)]; omega
    rw [ek] at this
    exact this
theorem r_bars {τ0 τ : kT} {k d n sp lo T : Nat} {lv : Int32} {op nv : Nat → Nat → Bool} {bl : Nat → Bool} {ms cy lc : Nat → Nat} {hh : Nat → Nat → Nat} (hS : Sz k d n sp lo T lv) (h0 : R0 τ0 k d n lo T op nv bl ms cy hh) (hlc : ∀ c, c < n → lc c ≤ 9) {tr : Nat} {g : Nat → Nat} (hR : RRel τ0 τ k n lo lc (T * n) g tr) {y j : Nat} (hy : y < k) (hj : j < d) (hM : ∀ c, c < n → q_i τ 74 (5 * j + c) = nI (Mk op hh lo n T g j c) ∧ Mk op hh lo n T g j c < 1024) {post : Int32 → kT → Prop} (h1 : barP op hh bl lc lo n T g y j → post 1 τ) (hf : ¬ barP op hh bl lc lo n T g y j → post 0 τ) : T_X11_bars (nI y) (nI j) (nI n) τ post := by
  obtain ⟨z1, z2, z3, z4, z5, z6, -⟩ := id hS
  obtain ⟨-, -, -, -, a5, -⟩ := id h0
  obtain ⟨y1, y2, kd, y3, y4, y5, y6⟩ := a5 j hj
  have gkk := hR.cutOf hS hlc hy
  have e67 : q_i τ 67 = q_i τ0 67 := hR.1.1 67 (by decide) (by decide) (by decide) (by decide)
  have loop : ∀ m c (f : Int32), c + m = n → ((f = 1 ∧ (bl j = true ∨ ∃ c', c' < c ∧ Mk op hh lo n T g j c' ≠ 0 ∧ (Mk op hh lo n T g j c').testBit (gk g lc lo n y c') = false)) ∨ (f = 0 ∧ ¬ (bl j = true ∨ ∃ c', c' < c ∧ Mk op hh lo n T g j c' ≠ 0 ∧ (Mk op hh lo n T g j c').testBit (gk g lc lo n y c') = false))) → L_X11_bars_31 (nI y) (nI j) (nI n) (fun v16 v17 τ18 => ((v16 = 0 ∨ v16 = 1) ∧ post v16 τ18)) post (m + 1) f (nI c) τ := by
    intro m
    induction m with
    | zero =>
      intro c f hc hs
      have hc : c = n := by omega
      subst hc
      unfold L_X11_bars_31
      refine br_t (nI_le (Nat.le_refl _) (by omega)) ?_
      rcases hs with ⟨rfl, q⟩ | ⟨rfl, q⟩
      · exact ⟨Or.inr rfl, h1 q⟩
      · exact ⟨Or.inl rfl, hf q⟩
    | succ m ih =>
      intro c f hc hs
      obtain ⟨m1, m2⟩ := hM c (by omega)
      obtain ⟨w1, w2⟩ := gkk c (by omega)
      have up : ¬ (Mk op hh lo n T g j c ≠ 0 ∧ (Mk op hh lo n T g j c).testBit (gk g lc lo n y c) = false) → ¬ (bl j = true ∨ ∃ c', c' < c ∧ Mk op hh lo n T g j c' ≠ 0 ∧ (Mk op hh lo n T g j c').testBit (gk g lc lo n y c') = false) → ¬ (bl j = true ∨ ∃ c', c' < c + 1 ∧ Mk op hh lo n T g j c' ≠ 0 ∧ (Mk op hh lo n T g j c').testBit (gk g lc lo n y c') = false) := by
        rintro q q2 (w | ⟨c', c1, c2, c3⟩)
        · exact q2 (Or.inl w)
        · by_cases e : c' = c
          · rw [e] at c2 c3; exact q ⟨c2, c3⟩
          · exact q2 (Or.inr ⟨c', by omega, c2, c3⟩)
      unfold L_X11_bars_31
      refine br_f (nI_ge (by omega) (by omega)) ⟨5 * j + c, ixl 5 j c, by omega, fun v6 h6 => ?_⟩
      rw [m1] at h6
      subst h6
      rcases hs with ⟨rfl, q⟩ | ⟨rfl, q⟩
      · refine bn_t (by decide) (fun v8 h8 => ?_)
        rw [h8, show nI c + 1 = nI (c + 1) from nI_1 c]
        exact ih (c + 1) 1 (by omega) (Or.inl ⟨rfl, q.imp id (fun ⟨c', c1, c2⟩ => ⟨c', by omega, c2⟩)⟩)
      · refine bn_f rfl ⟨fun q2 v10 h10 => ?_, fun q2 => ⟨5 * y + c, ixl 5 y c, by omega, ?_⟩⟩
        · rw [h10, show nI c + 1 = nI (c + 1) from nI_1 c]
          exact ih (c + 1) 0 (by omega) (Or.inr ⟨rfl, up (fun w => w.1 ((nI_eq (b := 0) (by omega) (by decide)).mp q2)) q⟩)
        · have mz : Mk op hh lo n T g j c ≠ 0 := fun w => q2 (by rw [w]; rfl)
          rw [w1, b_shr (by omega) (by omega), show (1 : Int32) = nI 1 from rfl, b_and, b_bit]
          cases z : (Mk op hh lo n T g j c).testBit (gk g lc lo n y c) with
          | true =>
            refine bn_t (by decide) (fun v13 h13 => ?_)
            rw [h13, show nI c + nI 1 = nI (c + 1) from nI_add c 1]
            exact ih (c + 1) 0 (by omega) (Or.inr ⟨rfl, up (fun w => by rw [z] at w; exact absurd w.2 (by decide)) q⟩)
          | false =>
            refine bn_f rfl (fun v14 h14 => ?_)
            rw [h14, show nI c + nI 1 = nI (c + 1) from nI_add c 1]
            exact ih (c + 1) (nI 1) (by omega) (Or.inl ⟨rfl, Or.inr ⟨c, by omega, mz, z⟩⟩)
  unfold T_X11_bars
  refine ⟨4464 + j, nI_add 4464 j, by omega, cy j, by rw [e67, y2]; exact ev_0a _, by omega, ?_⟩
  rw [e67, y4]
  have none0 : ¬ ∃ c', c' < 0 ∧ Mk op hh lo n T g j c' ≠ 0 ∧ (Mk op hh lo n T g j c').testBit (gk g lc lo n y c') = false := fun ⟨c', c1, _⟩ => absurd c1 (by omega)
  by_cases q : kd = 3
  · exact bn_f (by rw [q]; rfl) ⟨n + 1, loop n 0 1 (by omega) (Or.inl ⟨rfl, Or.inl (y6.mpr q)⟩)⟩
  · exact bn_t (fun w => q ((nI_eq (b := 3) (by omega) (by decide)).mp w)) ⟨n + 1, loop n 0 0 (by omega) (Or.inr ⟨rfl, fun w => w.elim (fun w => q (y6.mp w)) none0⟩)⟩
theorem RRel.s74 {τ0 τ : kT} {k n lo p tr : Nat} {lc g : Nat → Nat} (h : RRel τ0 τ k n lo lc p g tr) (i : Nat) (v : Int32) : RRel τ0 (q_si τ 74 i v) k n lo lc p g tr := by
  obtain ⟨⟨h1, h2, h3, h4⟩, h5, h6⟩ := h
  exact ⟨⟨fun x n1 n2 n3 n4 => by rw [q_i_si, if_neg n4]; exact h1 x n1 n2 n3 n4, h2, h3, h4⟩, h5, h6⟩
theorem r_never {τ0 τ : kT} {k d n sp lo T : Nat} {lv : Int32} {op nv : Nat → Nat → Bool} {bl : Nat → Bool} {ms cy lc : Nat → Nat} {hh : Nat → Nat → Nat} (hS : Sz k d n sp lo T lv) (h0 : R0 τ0 k d n lo T op nv bl ms cy hh) (hlc : ∀ c, c < n → lc c ≤ 9) {tr : Nat} {g : Nat → Nat} (hR : RRel τ0 τ k n lo lc (T * n) g tr) {post : Int32 → kT → Prop} (h : ∀ τ2, RRel τ0 τ2 k n lo lc (T * n) g tr → (∀ j, j < d → ∀ c, c < n → q_i τ2 74 (5 * j + c) = nI (Mk op hh lo n T g j c)) → q_i τ2 71 = q_i τ 71 → (nmP op nv hh bl lc lo n T k d g → post 1 τ2) ∧ (¬ nmP op nv hh bl lc lo n T k d g → post 0 τ2)) : T_X11_areNeversMet (nI k) (nI d) (nI n) τ post := by
  obtain ⟨z1, z2, z3, z4, z5, z6, z7, -⟩ := id hS
  obtain ⟨a1, a2, a3, a4, a5, a6⟩ := id h0
  have k6 : ∀ t, t < T → key lo t < 6 := fun t ht => Nat.lt_of_lt_of_le (z7 t ht) z1
  have M10 : ∀ j c, j < d → c < n → Mk op hh lo n T g j c < 1024 := fun j c hj hc => by
    unfold Mk
    split
    · exact (a6 j hj c hc).2
    · exact mk_lt T (fun t ht => (hR.2.1 _ (dm_lt hc ht)).2)
  have fin : ∀ τ2, RRel τ0 τ2 k n lo lc (T * n) g tr → (∀ j, j < d → ∀ c, c < n → q_i τ2 74 (5 * j + c) = nI (Mk op hh lo n T g j c)) → q_i τ2 71 = q_i τ 71 → ∃ m38 : Nat, L_X11_areNeversMet_100 (nI k) (nI d) (nI n) (fun v39 v40 τ41 => ((v39 = 0 ∨ v39 = 1) ∧ post v39 τ41)) post m38 (1 : Int32) (0 : Int32) τ2 := by
    intro τ2 h2 hM h71
    have hp := h τ2 h2 hM h71
    have inner : ∀ {y : Nat} (hy : y < k) (K : Int32 → Int32 → kT → Prop) (P : Prop) (f : Int32), ((f = 1 ∧ P) ∨ (f = 0 ∧ ¬ P)) → (∀ f' v, ((f' = 1 ∧ (P ∧ ∀ j, j < d → nv y j = true → barP op hh bl lc lo n T g y j)) ∨ (f' = 0 ∧ ¬ (P ∧ ∀ j, j < d → nv y j = true → barP op hh bl lc lo n T g y j))) → K f' v τ2) → ∃ m33 : Nat, L_X11_areNeversMet_109 (nI k) (nI d) (nI n) (nI y) K post m33 f (0 : Int32) τ2 := by
      intro y hy K P f hf hK
      have loop : ∀ m j (f : Int32), j + m = d → ((f = 1 ∧ (P ∧ ∀ j', j' < j → nv y j' = true → barP op hh bl lc lo n T g y j')) ∨ (f = 0 ∧ ¬ (P ∧ ∀ j', j' < j → nv y j' = true → barP op hh bl lc lo n T g y j'))) → L_X11_areNeversMet_109 (nI k) (nI d) (nI n) (nI y) K post (m + 1) f (nI j) τ2 := by
        intro m
        induction m with
        | zero =>
          intro j f hj hs
          have hj : j = d := by omega
          subst hj
          unfold L_X11_areNeversMet_109
          exact br_t (nI_le (Nat.le_refl _) (by omega)) (hK f _ hs)
        | succ m ih =>
          intro j f hj hs
          have hjd : j < d := by omega
          have s2 := a4 y hy j hjd
          unfold L_X11_areNeversMet_109
          refine br_f (nI_ge (by omega) (by omega)) ?_
          rcases hs with ⟨rfl, q⟩ | ⟨rfl, q⟩
          · have good : (nv y j = true → barP op hh bl lc lo n T g y j) → ∀ f : Int32, f = 1 → L_X11_areNeversMet_109 (nI k) (nI d) (nI n) (nI y) K post (m + 1) f (nI (j + 1)) τ2 := by
              intro w f hf
              refine ih (j + 1) f (by omega) (Or.inl ⟨hf, q.1, fun j' hj' => ?_⟩)
              by_cases e : j' = j
              · rw [e]; exact w
              · exact q.2 j' (by omega)
            refine br_f (by decide) ⟨6 * y + j, ixl 6 y j, by omega, ?_⟩
            rw [h2.1.1 73 (by decide) (by decide) (by decide) (by decide)]
            by_cases z : nv y j = true
            · refine bn_f (s2.mpr z) (r_bars hS h0 hlc h2 hy hjd (fun c hc => ⟨hM j hjd c hc, M10 j c hjd hc⟩) (fun w => br_f (by decide) (fun v32 h32 => ?_)) (fun w => br_t rfl (fun v31 h31 => ?_)))
              · rw [h32, show nI j + 1 = nI (j + 1) from nI_1 j]
                exact good (fun _ => w) 1 rfl
              · rw [h31, show nI j + 1 = nI (j + 1) from nI_1 j]
                exact ih (j + 1) 0 (by omega) (Or.inr ⟨rfl, fun u => w (u.2 j (by omega) z)⟩)
            · refine bn_t (fun u => z (s2.mp u)) (fun v27 h27 => ?_)
              rw [h27, show nI j + 1 = nI (j + 1) from nI_1 j]
              exact good (fun u => absurd u z) 1 rfl
          · refine br_t rfl (fun v24 h24 => ?_)
            rw [h24, show nI j + 1 = nI (j + 1) from nI_1 j]
            exact ih (j + 1) 0 (by omega) (Or.inr ⟨rfl, fun u => q ⟨u.1, fun j' hj' => u.2 j' (by omega)⟩⟩)
      refine ⟨d + 1, loop d 0 f (by omega) ?_⟩
      have e : (P ∧ ∀ j', j' < 0 → nv y j' = true → barP op hh bl lc lo n T g y j') ↔ P := ⟨fun u => u.1, fun u => ⟨u, fun j' hj' => absurd hj' (by omega)⟩⟩
      rw [e]; exact hf
    have outer : ∀ m y (f : Int32), y + m = k → ((f = 1 ∧ ∀ y', y' < y → ∀ j, j < d → nv y' j = true → barP op hh bl lc lo n T g y' j) ∨ (f = 0 ∧ ¬ ∀ y', y' < y → ∀ j, j < d → nv y' j = true → barP op hh bl lc lo n T g y' j)) → L_X11_areNeversMet_100 (nI k) (nI d) (nI n) (fun v39 v40 τ41 => ((v39 = 0 ∨ v39 = 1) ∧ post v39 τ41)) post (m + 1) f (nI y) τ2 := by
      intro m
      induction m with
      | zero =>
        intro y f hy hs
        have hy : y = k := by omega
        subst hy
        unfold L_X11_areNeversMet_100
        refine br_t (nI_le (Nat.le_refl _) (by omega)) ?_
        rcases hs with ⟨rfl, q⟩ | ⟨rfl, q⟩
        · exact ⟨Or.inr rfl, hp.1 q⟩
        · exact ⟨Or.inl rfl, hp.2 q⟩
      | succ m ih =>
        intro y f hy hs
        unfold L_X11_areNeversMet_100
        refine br_f (nI_ge (by omega) (by omega)) (inner (by omega) _ _ f hs (fun f' v hs' v37 h37 => ?_))
        rw [h37, show nI y + 1 = nI (y + 1) from nI_1 y]
        refine ih (y + 1) f' (by omega) ?_
        have e : (∀ y', y' < y + 1 → ∀ j, j < d → nv y' j = true → barP op hh bl lc lo n T g y' j) ↔ ((∀ y', y' < y → ∀ j, j < d → nv y' j = true → barP op hh bl lc lo n T g y' j) ∧ ∀ j, j < d → nv y j = true → barP op hh bl lc lo n T g y j) := by
          refine ⟨fun u => ⟨fun y' hy' => u y' (by omega), u y (by omega)⟩, fun u y' hy' => ?_⟩
          by_cases e : y' = y
          · rw [e]; exact u.2
          · exact u.1 y' (by omega)
        rw [e]; exact hs'
    exact ⟨k + 1, outer k 0 1 (by omega) (Or.inl ⟨rfl, fun y' hy' => absurd hy' (by omega)⟩)⟩
  -- the masks
  have row : ∀ {j : Nat} (hj : j < d) (τ2 : kT) (K : Int32 → kT → Prop), RRel τ0 τ2 k n lo lc (T * n) g tr → (∀ j', j' < j → ∀ c, c < n → q_i τ2 74 (5 * j' + c) = nI (Mk op hh lo n T g j' c)) → q_i τ2 71 = q_i τ 71 → (∀ v τ3, RRel τ0 τ3 k n lo lc (T * n) g tr → (∀ j', j' < j + 1 → ∀ c, c < n → q_i τ3 74 (5 * j' + c) = nI (Mk op hh lo n T g j' c)) → q_i τ3 71 = q_i τ 71 → K v τ3) → ∃ m14 : Nat, L_X11_areNeversMet_12 (nI k) (nI d) (nI n) (nI j) K post m14 (0 : Int32) τ2 := by
    intro j hj τ2 K h2 hM h71 hK
    obtain ⟨y1, y2, -⟩ := a5 j hj
    have loop : ∀ m c τ3, c + m = n → RRel τ0 τ3 k n lo lc (T * n) g tr → (∀ j', j' < j → ∀ c, c < n → q_i τ3 74 (5 * j' + c) = nI (Mk op hh lo n T g j' c)) → (∀ c', c' < c → q_i τ3 74 (5 * j + c') = nI (Mk op hh lo n T g j c')) → q_i τ3 71 = q_i τ 71 → L_X11_areNeversMet_12 (nI k) (nI d) (nI n) (nI j) K post (m + 1) (nI c) τ3 := by
      intro m
      induction m with
      | zero =>
        intro c τ3 hc h3 hM3 hc3 h713
        have hc : c = n := by omega
        subst hc
        unfold L_X11_areNeversMet_12
        refine br_t (nI_le (Nat.le_refl _) (by omega)) (hK _ τ3 h3 (fun j' hj' c' hc' => ?_) h713)
        by_cases e : j' = j
        · rw [e]; exact hc3 c' hc'
        · exact hM3 j' (by omega) c' hc'
      | succ m ih =>
        intro c τ3 hc h3 hM3 hc3 h713
        have hcn : c < n := by omega
        have nx : ∀ τ4 : kT, τ4 = q_si τ3 74 (5 * j + c) (nI (Mk op hh lo n T g j c)) → L_X11_areNeversMet_12 (nI k) (nI d) (nI n) (nI j) K post (m + 1) (nI (c + 1)) τ4 := by
          intro τ4 h4
          subst h4
          refine ih (c + 1) _ (by omega) (h3.s74 _ _) (fun j' hj' c' hc' => ?_) (fun c' hc' => ?_) h713
          · rw [q_i_si, if_pos rfl, upd_ne (by omega)]; exact hM3 j' hj' c' hc'
          · rw [q_i_si, if_pos rfl, upd_at]
            by_cases e : c' = c
            · rw [if_pos (by rw [e]), e]
            · rw [if_neg (by omega)]; exact hc3 c' (by omega)
        unfold L_X11_areNeversMet_12
        refine br_f (nI_ge (by omega) (by omega)) ?_
        rw [h3.1.2.2.1 14 (by decide), a1]
        refine r_cutsAt h0 k6 z2 z6 z4 h3 hj hcn (Nat.le_refl T) (fun t ht => ?_) (fun t ht => dm_lt hcn ht) ?_
        · rw [i_lt, i_m1 (by omega), nI_toInt (by omega)]
          omega
        · have m10 : mk op lo n g j c T < 1024 := mk_lt T (fun t ht => (h3.2.1 _ (dm_lt hcn ht)).2)
          have e67 : q_i τ3 67 = q_i τ0 67 := h3.1.1 67 (by decide) (by decide) (by decide) (by decide)
          by_cases q : mk op lo n g j c T = 0
          · refine br_t (by rw [q]; decide) ⟨4464 + j, nI_add 4464 j, by omega, 400 + 18 * cy j + c, by rw [e67, y2]; exact ev_3 400 18 (cy j) c, by omega, 5 * j + c, ixl 5 j c, by omega, fun τ9 h9 v10 h10 => ?_⟩
            rw [h10, show nI c + 1 = nI (c + 1) from nI_1 c]
            refine nx τ9 ?_
            rw [h9, e67, (a6 j hj c hcn).1]
            congr 2
            exact (if_pos q).symm
          · refine br_f (by show ¬ nI (mk op lo n g j c T) ≤ nI 0; exact nI_ge (by omega) (by omega)) ⟨5 * j + c, ixl 5 j c, by omega, fun τ12 h12 v13 h13 => ?_⟩
            rw [h13, show nI c + 1 = nI (c + 1) from nI_1 c]
            refine nx τ12 ?_
            rw [h12]
            congr 2
            exact (if_neg q).symm
    exact ⟨n + 1, loop n 0 τ2 (by omega) h2 hM (fun c' hc' => absurd hc' (by omega)) h71⟩
  have rows : ∀ m j τ2, j + m = d → RRel τ0 τ2 k n lo lc (T * n) g tr → (∀ j', j' < j → ∀ c, c < n → q_i τ2 74 (5 * j' + c) = nI (Mk op hh lo n T g j' c)) → q_i τ2 71 = q_i τ 71 → L_X11_areNeversMet_3 (nI k) (nI d) (nI n) (fun v19 τ20 => (∃ m38 : Nat, L_X11_areNeversMet_100 (nI k) (nI d) (nI n) (fun v39 v40 τ41 => ((v39 = 0 ∨ v39 = 1) ∧ post v39 τ41)) post m38 (1 : Int32) (0 : Int32) τ20)) post (m + 1) (nI j) τ2 := by
    intro m
    induction m with
    | zero =>
      intro j τ2 hj h2 hM h71
      have hj : j = d := by omega
      subst hj
      unfold L_X11_areNeversMet_3
      exact br_t (nI_le (Nat.le_refl _) (by omega)) (fin τ2 h2 hM h71)
    | succ m ih =>
      intro j τ2 hj h2 hM h71
      unfold L_X11_areNeversMet_3
      refine br_f (nI_ge (by omega) (by omega)) (row (by omega) τ2 _ h2 hM h71 (fun v τ3 h3 hM3 h713 v17 h17 => ?_))
      rw [h17, show nI j + 1 = nI (j + 1) from nI_1 j]
      exact ih (j + 1) τ3 (by omega) h3 hM3 h713
  exact ⟨d + 1, rows d 0 τ (by omega) hR (fun j' hj' => absurd hj' (by omega)) rfl⟩
