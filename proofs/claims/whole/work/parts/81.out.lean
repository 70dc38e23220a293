/-! ===== the cutting is carried out ===== -/
def opened (op : Nat → Nat → Bool) (lo T j : Nat) : Prop := ∃ t, t < T ∧ op (key lo t) j = true
theorem c_out {τ0 τr : kT} {k d n sp lo T nk nc : Nat} {lv : Int32} {op nv : Nat → Nat → Bool} {bl : Nat → Bool} {ms cy : Nat → Nat} {hh : Nat → Nat → Nat} {g : Nat → Nat} (hS : Sz k d n sp lo T lv) (h0 : C0 τ0 k d n sp lo T lv op nv bl ms hh) (h45 : ∀ i, i ≠ 0 → q_i τr 45 i = q_i τ0 45 i) (h46 : q_i τr 46 = q_i τ0 46) (k1 : q_i τr 9 5 = nI nk) (hnk : nk ≤ 100) (hkn : k ≤ nk) (c1 : q_i τr 2 5 = nI nc) (hnc : nc ≤ 100) (h51 : ∀ q, q < T * n → q_i τr 51 (ix n lo q) = nI (g q)) (h53 : 0 < T → ∀ j, j < d → ∀ c, c < n → q_i τr (53 + (T - 1)) (j * 5 + c) = nI (mk op lo n g j c T)) (h19 : ∀ j, j < d → q_i τr 19 j = nI (cy j) ∧ cy j < nc ∧ q_i τr 4 (cy j) = nI n ∧ ∀ i, i < j → cy i ≠ cy j) {post : kT → Prop}
    (h : ∀ τ1, (∀ x, x ≠ 5 → x ≠ 10 → x ≠ 11 → q_i τ1 x = q_i τr x) → (∀ x, q_l τ1 x = q_l τr x) → (∀ t, t < T → q_i τ1 10 (key lo t) = nI n) → (∀ y, (∀ t, t < T → y ≠ key lo t) → q_i τ1 10 y = q_i τr 10 y) → (∀ t, t < T → ∀ c, c < n → q_i τ1 11 (key lo t * 18 + c) = nI (g (t * n + c))) → (∀ i, (∀ t, t < T → ∀ c, c < n → i ≠ key lo t * 18 + c) → q_i τ1 11 i = q_i τr 11 i) → (∀ j, j < d → opened op lo T j → ∀ c, c < n → q_i τ1 5 (cy j * 18 + c) = nI (mk op lo n g j c T)) → (∀ i, (∀ j, j < d → opened op lo T j → ∀ c, c < n → i ≠ cy j * 18 + c) → q_i τ1 5 i = q_i τr 5 i) → post τ1) : T_X3_carryOut τr post := by
  obtain ⟨z1, z2, z3, z4, z5, z6, z7, -⟩ := id hS
  obtain ⟨⟨a1, a2, a3, a4, a5, a6⟩, -, -, b4, -⟩ := id h0
  have k6 : ∀ t, t < T → key lo t < k := z7
  -- the doors
  have doors : ∀ τ1, (∀ x, x ≠ 10 → x ≠ 11 → q_i τ1 x = q_i τr x) → (∀ x, q_l τ1 x = q_l τr x) → (∀ t, t < T → q_i τ1 10 (key lo t) = nI n) → (∀ y, (∀ t, t < T → y ≠ key lo t) → q_i τ1 10 y = q_i τr 10 y) → (∀ t, t < T → ∀ c, c < n → q_i τ1 11 (key lo t * 18 + c) = nI (g (t * n + c))) → (∀ i, (∀ t, t < T → ∀ c, c < n → i ≠ key lo t * 18 + c) → q_i τ1 11 i = q_i τr 11 i) → ∃ m27 : Nat, L_X3_carryOut_77 (fun v28 τ29 => post τ29) post m27 (0 : Int32) τ1 := by
    intro τ1 hx hl l1 l2 s1 s2
    have loop : ∀ m j τ2, j + m = d → (∀ x, x ≠ 5 → q_i τ2 x = q_i τ1 x) → (∀ x, q_l τ2 x = q_l τ1 x) → (∀ j', j' < j → opened op lo T j' → ∀ c, c < n → q_i τ2 5 (cy j' * 18 + c) = nI (mk op lo n g j' c T)) → (∀ i, (∀ j', j' < j → opened op lo T j' → ∀ c, c < n → i ≠ cy j' * 18 + c) → q_i τ2 5 i = q_i τr 5 i) → L_X3_carryOut_77 (fun v28 τ29 => post τ29) post (m + 1) (nI j) τ2 := by
      intro m
      induction m with
      | zero =>
        intro j τ2 hj hx2 hl2 p1 p2
        have hj : j = d := by omega
        subst hj
        unfold L_X3_carryOut_77
        refine br_t (by rw [hx2 45 (by decide), hx 45 (by decide) (by decide), h45 2 (by decide), a2]; exact nI_le (Nat.le_refl _) (by omega)) (h τ2 (fun x n5 n10 n11 => by rw [hx2 x n5]; exact hx x n10 n11) (fun x => by rw [hl2]; exact hl x) (fun t ht => by rw [hx2 10 (by decide)]; exact l1 t ht) (fun y hy => by rw [hx2 10 (by decide)]; exact l2 y hy) (fun t ht c hc => by rw [hx2 11 (by decide)]; exact s1 t ht c hc) (fun i hi => by rw [hx2 11 (by decide)]; exact s2 i hi) p1 p2)
      | succ m ih =>
        intro j τ2 hj hx2 hl2 p1 p2
        have hjd : j < d := by omega
        obtain ⟨y1, y2, y3, y4⟩ := h19 j hjd
        have g45 : ∀ {τ3 : kT}, (∀ x, x ≠ 5 → q_i τ3 x = q_i τ1 x) → ∀ i, i ≠ 0 → q_i τ3 45 i = q_i τ0 45 i := fun hx3 i hi => by rw [hx3 45 (by decide), hx 45 (by decide) (by decide)]; exact h45 i hi
        unfold L_X3_carryOut_77
        refine br_f (by rw [g45 hx2 2 (by decide), a2]; exact nI_ge (by omega) (by omega)) (c_opened hS h0 (g45 hx2) hjd (fun o => br_f (by decide) ⟨j, rfl, by omega, ?_⟩) (fun o => br_t rfl (fun v22 h22 => ?_)))
        · have e19 : q_i τ2 19 j = nI (cy j) := by rw [hx2 19 (by decide), hx 19 (by decide) (by decide)]; exact y1
          have T0 : 0 < T := by obtain ⟨t, ht, -⟩ := o; omega
          rw [e19]
          have inner : ∀ i c τ3, c + i = n → (∀ x, x ≠ 5 → q_i τ3 x = q_i τ1 x) → (∀ x, q_l τ3 x = q_l τ1 x) → (∀ c', c' < c → q_i τ3 5 (cy j * 18 + c') = nI (mk op lo n g j c' T)) → (∀ i, (∀ c', c' < c → i ≠ cy j * 18 + c') → q_i τ3 5 i = q_i τ2 5 i) → L_X3_fillChambers_3 (nI (cy j)) (nI j) (fun v8 τ9 => (∀ v26 : Int32, v26 = nI j + (1 : Int32) → L_X3_carryOut_77 (fun v28 τ29 => post τ29) post (m + 1) v26 τ9)) (fun τ25 => (∀ v26 : Int32, v26 = nI j + (1 : Int32) → L_X3_carryOut_77 (fun v28 τ29 => post τ29) post (m + 1) v26 τ25)) (i + 1) (nI c) τ3 := by
            intro i
            induction i with
            | zero =>
              intro c τ3 hc hx3 hl3 q1 q2
              have hc : c = n := by omega
              subst hc
              unfold L_X3_fillChambers_3
              refine br_t (by rw [g45 hx3 3 (by decide), a3]; exact nI_le (Nat.le_refl _) (by omega)) (fun v26 h26 => ?_)
              rw [h26, show nI j + 1 = nI (j + 1) from nI_1 j]
              refine ih (j + 1) τ3 (by omega) hx3 hl3 (fun j' hj' o' c' hc' => ?_) (fun i hi => ?_)
              · by_cases e : j' = j
                · rw [e]; exact q1 c' hc'
                · have ne := y4 j' (by omega)
                  rw [q2 _ (fun c2 h2 => by omega)]
                  exact p1 j' (by omega) o' c' hc'
              · rw [q2 i (fun c' hc' => hi j (by omega) o c' hc')]
                exact p2 i (fun j' hj' o' c' hc' => hi j' (by omega) o' c' hc')
            | succ i ihc =>
              intro c τ3 hc hx3 hl3 q1 q2
              have hcn : c < n := by omega
              have e53 : q_i τ3 (53 + (T - 1)) (j * 5 + c) = nI (mk op lo n g j c T) := by
                rw [hx3 _ (by omega), hx _ (by omega) (by omega)]; exact h53 T0 j hjd c hcn
              unfold L_X3_fillChambers_3
              refine br_f (by rw [g45 hx3 3 (by decide), a3]; exact nI_ge (by omega) (by omega)) ⟨T - 1, by rw [g45 hx3 6 (by decide), a5, i_eq, i_m1 (by omega), nI_toInt (by omega)]; omega, by omega, j * 5 + c, ix5 j c, by omega, ?_⟩
              rw [e53]
              refine s_setHeights (n := nc) (r := n) (by rw [hx3 2 (by decide), hx 2 (by decide) (by decide)]; exact c1) hnc y2 (by rw [hx3 4 (by decide), hx 4 (by decide) (by decide)]; exact y3) (by omega) hcn (fun v6 h6 => ?_)
              rw [h6, show nI c + 1 = nI (c + 1) from nI_1 c]
              refine ihc (c + 1) _ (by omega) (fun x hx5 => by rw [q_i_si, if_neg hx5]; exact hx3 x hx5) hl3 (fun c' hc' => ?_) (fun i hi => ?_)
              · rw [q_i_si, if_pos rfl, upd_at]
                by_cases e : c' = c
                · rw [if_pos (by rw [e]), e]
                · rw [if_neg (by omega)]; exact q1 c' (by omega)
              · rw [q_i_si, if_pos rfl, upd_ne (hi c (by omega))]
                exact q2 i (fun c' hc' => hi c' (by omega))
          exact ⟨n + 1, inner n 0 τ2 (by omega) hx2 hl2 (fun c' hc' => absurd hc' (by omega)) (fun i _ => rfl)⟩
        · rw [h22, show nI j + 1 = nI (j + 1) from nI_1 j]
          refine ih (j + 1) τ2 (by omega) hx2 hl2 (fun j' hj' o' => ?_) (fun i hi => p2 i (fun j' hj' => hi j' (by omega)))
          by_cases e : j' = j
          · rw [e] at o'; exact absurd o' o
          · exact p1 j' (by omega) o'
    exact ⟨d + 1, loop d 0 τ1 (by omega) (fun _ _ => rfl) (fun _ => rfl) (fun j' hj' => absurd hj' (by omega)) (fun i _ => by rw [hx 5 (by decide) (by decide)])⟩
  -- the keys
  have loop : ∀ m t τ1, t + m = T → (∀ x, x ≠ 10 → x ≠ 11 → q_i τ1 x = q_i τr x) → (∀ x, q_l τ1 x = q_l τr x) → (∀ t', t' < t → q_i τ1 10 (key lo t') = nI n) → (∀ y, (∀ t', t' < t → y ≠ key lo t') → q_i τ1 10 y = q_i τr 10 y) → (∀ t', t' < t → ∀ c, c < n → q_i τ1 11 (key lo t' * 18 + c) = nI (g (t' * n + c))) → (∀ i, (∀ t', t' < t → ∀ c, c < n → i ≠ key lo t' * 18 + c) → q_i τ1 11 i = q_i τr 11 i) → L_X3_carryOut_2 (fun v16 τ17 => (∃ m27 : Nat, L_X3_carryOut_77 (fun v28 τ29 => post τ29) post m27 (0 : Int32) τ17)) post (m + 1) (nI t) τ1 := by
    intro m
    induction m with
    | zero =>
      intro t τ1 ht hx hl l1 l2 s1 s2
      have ht : t = T := by omega
      subst ht
      unfold L_X3_carryOut_2
      exact br_t (by rw [hx 45 (by decide) (by decide), h45 6 (by decide), a5]; exact nI_le (Nat.le_refl _) (by omega)) (doors τ1 hx hl l1 l2 s1 s2)
    | succ m ih =>
      intro t τ1 ht hx hl l1 l2 s1 s2
      have htT : t < T := by omega
      have kk := k6 t htT
      unfold L_X3_carryOut_2
      refine br_f (by rw [hx 45 (by decide) (by decide), h45 6 (by decide), a5]; exact nI_ge (by omega) (by omega)) ⟨t, rfl, by omega, fun v3 h3 => ?_⟩
      rw [hx 46 (by decide) (by decide), h46, b4 t htT] at h3
      subst h3
      refine ⟨key lo t, rfl, by omega, fun τ5 h5 => ?_⟩
      rw [hx 45 (by decide) (by decide), h45 3 (by decide), a3] at h5
      have kne : ∀ t', t' < t → key lo t' ≠ key lo t := fun t' h' w => by have := key_inj w; omega
      have inner : ∀ i c τ3, c + i = n → (∀ x, x ≠ 11 → q_i τ3 x = q_i τ5 x) → (∀ x, q_l τ3 x = q_l τr x) → (∀ c', c' < c → q_i τ3 11 (key lo t * 18 + c') = nI (g (t * n + c'))) → (∀ i, (∀ c', c' < c → i ≠ key lo t * 18 + c') → q_i τ3 11 i = q_i τ1 11 i) → L_X3_carryOut_33 (nI t) (nI (key lo t)) (fun v12 τ13 => (∀ v14 : Int32, v14 = nI t + (1 : Int32) → L_X3_carryOut_2 (fun v16 τ17 => (∃ m27 : Nat, L_X3_carryOut_77 (fun v28 τ29 => post τ29) post m27 (0 : Int32) τ17)) post (m + 1) v14 τ13)) post (i + 1) (nI c) τ3 := by
        intro i
        induction i with
        | zero =>
          intro c τ3 hc hx3 hl3 q1 q2
          have hc : c = n := by omega
          subst hc
          have x35 : ∀ x, x ≠ 10 → x ≠ 11 → q_i τ3 x = q_i τr x := fun x n10 n11 => by rw [hx3 x n11, h5, q_i_si, if_neg n10]; exact hx x n10 n11
          unfold L_X3_carryOut_33
          refine br_t (by rw [x35 45 (by decide) (by decide), h45 3 (by decide), a3]; exact nI_le (Nat.le_refl _) (by omega)) (fun v14 h14 => ?_)
          rw [h14, show nI t + 1 = nI (t + 1) from nI_1 t]
          refine ih (t + 1) τ3 (by omega) x35 hl3 (fun t' h' => ?_) (fun y hy => ?_) (fun t' h' c' hc' => ?_) (fun i hi => ?_)
          · rw [hx3 10 (by decide), h5, q_i_si, if_pos rfl, upd_at]
            by_cases e : t' = t
            · rw [if_pos (by rw [e])]
            · rw [if_neg (kne t' (by omega))]; exact l1 t' (by omega)
          · rw [hx3 10 (by decide), h5, q_i_si, if_pos rfl, upd_ne (hy t (by omega))]
            exact l2 y (fun t' h' => hy t' (by omega))
          · by_cases e : t' = t
            · rw [e]; exact q1 c' hc'
            · have ne := kne t' (by omega)
              rw [q2 _ (fun c2 h2 => by omega)]
              exact s1 t' (by omega) c' hc'
          · rw [q2 i (fun c' hc' => hi t (by omega) c' hc')]
            exact s2 i (fun t' h' c' hc' => hi t' (by omega) c' hc')
        | succ i ihc =>
          intro c τ3 hc hx3 hl3 q1 q2
          have hcn : c < n := by omega
          have x35 : ∀ x, x ≠ 10 → x ≠ 11 → q_i τ3 x = q_i τr x := fun x n10 n11 => by rw [hx3 x n11, h5, q_i_si, if_neg n10]; exact hx x n10 n11
          have e51 : q_i τ3 51 (key lo t * 5 + c) = nI (g (t * n + c)) := by
            rw [x35 51 (by decide) (by decide), show key lo t * 5 + c = 5 * key lo t + c by omega, ← ix_of hcn]
            exact h51 _ (dm_lt hcn htT)
          unfold L_X3_carryOut_33
          refine br_f (by rw [x35 45 (by decide) (by decide), h45 3 (by decide), a3]; exact nI_ge (by omega) (by omega)) ⟨key lo t * 5 + c, ix5 _ c, by omega, ?_⟩
          rw [e51]
          refine s_setCut (n := nk) (m := n) (by rw [x35 9 (by decide) (by decide)]; exact k1) hnk (by omega) (by rw [hx3 10 (by decide), h5, q_i_si, if_pos rfl, upd_eq]) (by omega) hcn (fun v10 h10 => ?_)
          rw [h10, show nI c + 1 = nI (c + 1) from nI_1 c]
          refine ihc (c + 1) _ (by omega) (fun x hx11 => by rw [q_i_si, if_neg hx11]; exact hx3 x hx11) hl3 (fun c' hc' => ?_) (fun i hi => ?_)
          · rw [q_i_si, if_pos rfl, upd_at]
            by_cases e : c' = c
            · rw [if_pos (by rw [e]), e]
            · rw [if_neg (by omega)]; exact q1 c' (by omega)
          · rw [q_i_si, if_pos rfl, upd_ne (hi c (by omega))]
            exact q2 i (fun c' hc' => hi c' (by omega))
      exact ⟨n + 1, inner n 0 τ5 (by omega) (fun _ _ => rfl) (fun x => by rw [h5]; exact hl x) (fun c' hc' => absurd hc' (by omega)) (fun i _ => by rw [h5]; rfl)⟩
  exact ⟨T + 1, loop T 0 τr (by omega) (fun _ _ _ => rfl) (fun _ => rfl) (fun t' h' => absurd h' (by omega)) (fun _ _ => rfl) (fun t' h' => absurd h' (by omega)) (fun _ _ => rfl)⟩
/-! the reference takes it over -/
theorem r_take {τ0 τr : kT} {k d n sp lo T : Nat} {lv : Int32} {op nv : Nat → Nat → Bool} {bl : Nat → Bool} {ms cy : Nat → Nat} {hh : Nat → Nat → Nat} {g : Nat → Nat} (hS : Sz k d n sp lo T lv) (h0 : R0 τ0 k d n lo T op nv bl ms cy hh) (h14 : q_i τr 66 14 = nI T) (h72 : q_i τr 72 = q_i τ0 72) (h70 : ∀ q, q < T * n → q_i τr 70 (ix n lo q) = nI (g q)) (h67 : ∀ j, j < d → q_i τr 67 (4464 + j) = nI (cy j)) (hcy : ∀ j, j < d → cy j < 100 ∧ ∀ i, i < j → cy i ≠ cy j) (hM : mask τr op hh lo n T d g) {post : kT → Prop}
    (h : ∀ τ1 s', W1 67 τr τ1 s' → (∀ t, t < T → s' (2200 + key lo t) = nI n) → (∀ t, t < T → ∀ c, c < n → s' (2300 + 18 * key lo t + c) = nI (g (t * n + c))) → (∀ j, j < d → ∀ c, c < n → s' (400 + 18 * cy j + c) = nI (Mk op hh lo n T g j c)) → (∀ i, (∀ t, t < T → i ≠ 2200 + key lo t) → (∀ t, t < T → ∀ c, c < n → i ≠ 2300 + 18 * key lo t + c) → (∀ j, j < d → ∀ c, c < n → i ≠ 400 + 18 * cy j + c) → s' i = q_i τr 67 i) → post τ1) : T_X11_take (nI d) (nI n) τr post := by
  obtain ⟨z1, z2, z3, z4, z5, z6, z7, -⟩ := id hS
  obtain ⟨a1, a2, -⟩ := id h0
  -- the doors
  have doors : ∀ τ1 s1, W1 67 τr τ1 s1 → (∀ t, t < T → s1 (2200 + key lo t) = nI n) → (∀ t, t < T → ∀ c, c < n → s1 (2300 + 18 * key lo t + c) = nI (g (t * n + c))) → (∀ i, (∀ t, t < T → i ≠ 2200 + key lo t) → (∀ t, t < T → ∀ c, c < n → i ≠ 2300 + 18 * key lo t + c) → s1 i = q_i τr 67 i) → ∃ m29 : Nat, L_X11_take_82 (nI d) (nI n) (fun v30 τ31 => post τ31) post m29 (0 : Int32) τ1 := by
    intro τ1 s1 hW l1 l2 l3
    have low : ∀ i, 4464 ≤ i → s1 i = q_i τr 67 i := fun i hi => l3 i (fun t ht w => by have := z7 t ht; omega) (fun t ht c hc w => by have := z7 t ht; omega)
    have loop : ∀ m j τ2 s2, j + m = d → W1 67 τr τ2 s2 → (∀ j', j' < j → ∀ c, c < n → s2 (400 + 18 * cy j' + c) = nI (Mk op hh lo n T g j' c)) → (∀ i, (∀ j', j' < j → ∀ c, c < n → i ≠ 400 + 18 * cy j' + c) → s2 i = s1 i) → L_X11_take_82 (nI d) (nI n) (fun v30 τ31 => post τ31) post (m + 1) (nI j) τ2 := by
      intro m
      induction m with
      | zero =>
        intro j τ2 s2 hj hW2 p1 p2
        have hj : j = d := by omega
        subst hj
        unfold L_X11_take_82
        refine br_t (nI_le (Nat.le_refl _) (by omega)) (h τ2 s2 hW2 (fun t ht => ?_) (fun t ht c hc => ?_) p1 (fun i i1 i2 i3 => ?_))
        · rw [p2 _ (fun j' hj' c hc w => by have := z7 t ht; have := (hcy j' hj').1; omega)]; exact l1 t ht
        · rw [p2 _ (fun j' hj' c' hc' w => by have := z7 t ht; have := (hcy j' hj').1; omega)]; exact l2 t ht c hc
        · rw [p2 i i3]; exact l3 i i1 i2
      | succ m ih =>
        intro j τ2 s2 hj hW2 p1 p2
        have hjd : j < d := by omega
        obtain ⟨y1, y2⟩ := hcy j hjd
        unfold L_X11_take_82
        refine br_f (nI_ge (by omega) (by omega)) ⟨n + 1, ?_⟩
        have inner : ∀ i c τ3 s3, c + i = n → W1 67 τr τ3 s3 → (∀ c', c' < c → s3 (400 + 18 * cy j + c') = nI (Mk op hh lo n T g j c')) → (∀ i, (∀ c', c' < c → i ≠ 400 + 18 * cy j + c') → s3 i = s2 i) → L_X11_take_90 (nI d) (nI n) (nI j) (fun v26 τ27 => (∀ v28 : Int32, v28 = nI j + (1 : Int32) → L_X11_take_82 (nI d) (nI n) (fun v30 τ31 => post τ31) post (m + 1) v28 τ27)) post (i + 1) (nI c) τ3 := by
          intro i
          induction i with
          | zero =>
            intro c τ3 s3 hc hW3 q1 q2
            have hc : c = n := by omega
            subst hc
            unfold L_X11_take_90
            refine br_t (nI_le (Nat.le_refl _) (by omega)) (fun v28 h28 => ?_)
            rw [h28, show nI j + 1 = nI (j + 1) from nI_1 j]
            refine ih (j + 1) τ3 s3 (by omega) hW3 (fun j' hj' c' hc' => ?_) (fun i hi => ?_)
            · by_cases e : j' = j
              · rw [e]; exact q1 c' hc'
              · have ne := y2 j' (by omega)
                rw [q2 _ (fun c2 h2 => by omega)]
                exact p1 j' (by omega) c' hc'
            · rw [q2 i (fun c' hc' => hi j (by omega) c' hc')]
              exact p2 i (fun j' hj' c' hc' => hi j' (by omega) c' hc')
          | succ i ihc =>
            intro c τ3 s3 hc hW3 q1 q2
            have hcn : c < n := by omega
            have e67 : q_i τ3 67 (4464 + j) = nI (cy j) := by
              rw [hW3.2.2, q2 _ (fun c' hc' => by omega), p2 _ (fun j' hj' c' hc' => by have := (hcy j' (by omega)).1; omega), low _ (by omega)]
              exact h67 j hjd
            have e74 : q_i τ3 74 (5 * j + c) = nI (Mk op hh lo n T g j c) := by rw [hW3.1 74 (by decide)]; exact hM j hjd c hcn
            unfold L_X11_take_90
            refine br_f (nI_ge (by omega) (by omega)) ⟨4464 + j, nI_add 4464 j, by omega, 5 * j + c, ixl 5 j c, by omega, 400 + 18 * cy j + c, by rw [e67]; exact ev_3 400 18 (cy j) c, by omega, fun τ23 h23 v24 h24 => ?_⟩
            rw [e74] at h23
            rw [h24, show nI c + 1 = nI (c + 1) from nI_1 c, h23]
            refine ihc (c + 1) _ _ (by omega) (hW3.set _ _) (fun c' hc' => ?_) (fun i hi => ?_)
            · rw [upd_at]
              by_cases e : c' = c
              · rw [if_pos (by rw [e]), e]
              · rw [if_neg (by omega)]; exact q1 c' (by omega)
            · rw [upd_ne (hi c (by omega))]
              exact q2 i (fun c' hc' => hi c' (by omega))
        exact inner n 0 τ2 s2 (by omega) hW2 (fun c' hc' => absurd hc' (by omega)) (fun i _ => rfl)
    exact ⟨d + 1, loop d 0 τ1 s1 (by omega) hW (fun j' hj' => absurd hj' (by omega)) (fun i _ => rfl)⟩
  have loop : ∀ m t τ1 s1, t + m = T → W1 67 τr τ1 s1 → (∀ t', t' < t → s1 (2200 + key lo t') = nI n) → (∀ t', t' < t → ∀ c, c < n → s1 (2300 + 18 * key lo t' + c) = nI (g (t' * n + c))) → (∀ i, (∀ t', t' < t → i ≠ 2200 + key lo t') → (∀ t', t' < t → ∀ c, c < n → i ≠ 2300 + 18 * key lo t' + c) → s1 i = q_i τr 67 i) → L_X11_take_2 (nI d) (nI n) (fun v16 τ17 => (∃ m29 : Nat, L_X11_take_82 (nI d) (nI n) (fun v30 τ31 => post τ31) post m29 (0 : Int32) τ17)) post (m + 1) (nI t) τ1 := by
    intro m
    induction m with
    | zero =>
      intro t τ1 s1 ht hW l1 l2 l3
      have ht : t = T := by omega
      subst ht
      unfold L_X11_take_2
      exact br_t (by rw [hW.1 66 (by decide), h14]; exact nI_le (Nat.le_refl _) (by omega)) (doors τ1 s1 hW l1 l2 l3)
    | succ m ih =>
      intro t τ1 s1 ht hW l1 l2 l3
      have htT : t < T := by omega
      have kk := z7 t htT
      have kne : ∀ t', t' < t → key lo t' ≠ key lo t := fun t' h' w => by have := key_inj w; omega
      unfold L_X11_take_2
      refine br_f (by rw [hW.1 66 (by decide), h14]; exact nI_ge (by omega) (by omega)) ⟨t, rfl, by omega, fun v3 h3 => ?_⟩
      rw [hW.1 72 (by decide), h72, a2 t htT] at h3
      subst h3
      refine ⟨2200 + key lo t, nI_add 2200 _, by omega, fun τ5 h5 => ⟨n + 1, ?_⟩⟩
      have hW5 := hW.set (2200 + key lo t) (nI n)
      rw [← h5] at hW5
      have inner : ∀ i c τ3 s3, c + i = n → W1 67 τr τ3 s3 → (∀ c', c' < c → s3 (2300 + 18 * key lo t + c') = nI (g (t * n + c'))) → (∀ i, (∀ c', c' < c → i ≠ 2300 + 18 * key lo t + c') → s3 i = upd s1 (2200 + key lo t) (nI n) i) → L_X11_take_33 (nI d) (nI n) (nI t) (nI (key lo t)) (fun v12 τ13 => (∀ v14 : Int32, v14 = nI t + (1 : Int32) → L_X11_take_2 (nI d) (nI n) (fun v16 τ17 => (∃ m29 : Nat, L_X11_take_82 (nI d) (nI n) (fun v30 τ31 => post τ31) post m29 (0 : Int32) τ17)) post (m + 1) v14 τ13)) post (i + 1) (nI c) τ3 := by
        intro i
        induction i with
        | zero =>
          intro c τ3 s3 hc hW3 q1 q2
          have hc : c = n := by omega
          subst hc
          unfold L_X11_take_33
          refine br_t (nI_le (Nat.le_refl _) (by omega)) (fun v14 h14' => ?_)
          rw [h14', show nI t + 1 = nI (t + 1) from nI_1 t]
          refine ih (t + 1) τ3 s3 (by omega) hW3 (fun t' h' => ?_) (fun t' h' c' hc' => ?_) (fun i i1 i2 => ?_)
          · have := z7 t' (by omega)
            rw [q2 _ (fun c' hc' => by omega), upd_at]
            by_cases e : t' = t
            · rw [if_pos (by rw [e])]
            · have := kne t' (by omega)
              rw [if_neg (by omega)]; exact l1 t' (by omega)
          · by_cases e : t' = t
            · rw [e]; exact q1 c' hc'
            · have ne := kne t' (by omega)
              have := z7 t' (by omega)
              rw [q2 _ (fun c2 h2 => by omega), upd_ne (by omega)]
              exact l2 t' (by omega) c' hc'
          · rw [q2 i (fun c' hc' => i2 t (by omega) c' hc'), upd_ne (i1 t (by omega))]
            exact l3 i (fun t' h' => i1 t' (by omega)) (fun t' h' c' hc' => i2 t' (by omega) c' hc')
        | succ i ihc =>
          intro c τ3 s3 hc hW3 q1 q2
          have hcn : c < n := by omega
          have e70 : q_i τ3 70 (5 * key lo t + c) = nI (g (t * n + c)) := by
            rw [hW3.1 70 (by decide), ← ix_of hcn]
            exact h70 _ (dm_lt hcn htT)
          unfold L_X11_take_33
          refine br_f (nI_ge (by omega) (by omega)) ⟨5 * key lo t + c, ixl 5 _ c, by omega, 2300 + 18 * key lo t + c, ev_3 2300 18 _ c, by omega, fun τ9 h9 v10 h10 => ?_⟩
          rw [e70] at h9
          rw [h10, show nI c + 1 = nI (c + 1) from nI_1 c, h9]
          refine ihc (c + 1) _ _ (by omega) (hW3.set _ _) (fun c' hc' => ?_) (fun i hi => ?_)
          · rw [upd_at]
            by_cases e : c' = c
            · rw [if_pos (by rw [e]), e]
            · rw [if_neg (by omega)]; exact q1 c' (by omega)
          · rw [upd_ne (hi c (by omega))]
            exact q2 i (fun c' hc' => hi c' (by omega))
      exact inner n 0 τ5 _ (by omega) hW5 (fun c' hc' => absurd hc' (by omega)) (fun i _ => rfl)
  exact ⟨T + 1, loop T 0 τr (q_i τr 67) (by omega) (W1.refl 67 τr) (fun t' h' => absurd h' (by omega)) (fun t' h' => absurd h' (by omega)) (fun i _ _ => rfl)⟩
