/-! ===== work, anew ===== -/
def PC0 (τ0 : kT) (s : Nat → Int32) (k d n sp lo : Nat) : Prop :=
  (q_i τ0 45 1 = nI k ∧ q_i τ0 45 2 = nI d ∧ q_i τ0 45 3 = nI n ∧ q_i τ0 45 4 = nI sp ∧ q_i τ0 45 6 = nI (cT lo k) ∧ q_i τ0 45 7 = -1) ∧
  (∃ od, od < 2 ^ 31 ∧ q_i τ0 45 10 = nI od ∧ ∀ j, j < d → (od.testBit j = true ↔ ∃ t, t < cT lo k ∧ opS s (key lo t) j = true)) ∧
  (∃ bm, bm < 2 ^ 31 ∧ q_i τ0 45 11 = nI bm ∧ ∀ j, j < d → bm.testBit j = blS s j) ∧
  (∀ t, t < cT lo k → q_i τ0 46 t = nI (key lo t)) ∧
  (∀ t, t < cT lo k → ∃ om, om < 2 ^ 31 ∧ q_i τ0 47 (key lo t) = nI om ∧ ∀ j, j < d → om.testBit j = opS s (key lo t) j) ∧
  (∀ y, y < k → y ≠ lo → ∃ m, m < 2 ^ 31 ∧ q_i τ0 48 y = nI m ∧ ∀ j, j < d → m.testBit j = nvS s lo y j) ∧
  (∀ j, j < d → q_i τ0 49 j = nI (msS s j) ∧ msS s j ≤ 4) ∧
  (∀ j, j < d → ∀ c, c < n → q_i τ0 50 (j * 5 + c) = nI (hhS s j c) ∧ hhS s j c < 1024)
theorem msS_4 (s : Nat → Int32) (j : Nat) : msS s j ≤ 4 := by
  unfold msS mostK
  split
  · decide
  · split <;> decide
theorem c_chain {τ : kT} {k d n sp lo : Nat} {lv : Int32} (hJ : J τ) (hk : k ≤ 6) (hd : d ≤ 6) (hn : n ≤ 5) (hkn : k ≤ N (q_i τ 67) 8523) (hdn : d ≤ N (q_i τ 67) 8525) (hD : DOK (q_i τ 67) d n) (hl1 : lo < k → lv = nI lo) (hl2 : ¬ lo < k → lv = -1) {post : kT → Prop} (h : ∀ τ2, FR τ τ2 → q_i τ2 45 0 = q_i τ 45 0 → PC0 τ2 (q_i τ 67) k d n sp lo → post τ2) : T_X3_begin (nI k) (nI d) (nI n) (nI sp) τ (fun τ11 => (T_X3_readDoors τ11 (fun τ13 => (T_X3_readKeys lv τ13 (fun τ15 => post τ15))))) := by
  intro τ1 h1 τ2 h2 τ3 h3 τ4 h4
  have w45 : q_i τ4 45 = upd (upd (upd (upd (q_i τ 45) 1 (nI k)) 2 (nI d)) 3 (nI n)) 4 (nI sp) := by rw [h4, h3, h2, h1]; rfl
  have hF4 : FR τ τ4 := by
    rw [h4, h3, h2, h1]
    exact (((FR.si (τ := τ) ⟨fun _ _ => rfl, fun _ => rfl⟩ ⟨by decide, by decide⟩ _ _).si ⟨by decide, by decide⟩ _ _).si ⟨by decide, by decide⟩ _ _).si ⟨by decide, by decide⟩ _ _
  have e1 : q_i τ4 45 1 = nI k := by rw [w45]; rfl
  have e2 : q_i τ4 45 2 = nI d := by rw [w45]; rfl
  have e3 : q_i τ4 45 3 = nI n := by rw [w45]; rfl
  have e4 : q_i τ4 45 4 = nI sp := by rw [w45]; rfl
  have e0 : q_i τ4 45 0 = q_i τ 45 0 := by rw [w45]; rfl
  refine c_readDoors hJ hF4 hd hdn hn hD e2 e3 (fun τ5 hF5 x5 i5 b5 m5 h5 => ?_)
  refine c_readKeys hJ hF5 hk hkn hd hl1 hl2 (by rw [i5 1 (by decide)]; exact e1) (by rw [i5 2 (by decide)]; exact e2) (fun τ6 hF6 x6 i6 p7 p6 od p46 p47 p48 => ?_)
  refine h τ6 hF6 (by rw [i6 0 (by decide) (by decide) (by decide), i5 0 (by decide)]; exact e0) ⟨⟨?_, ?_, ?_, ?_, p6, p7⟩, od, ?_, p46, p47, fun y hy hn' => ?_, fun j hj => ?_, fun j hj c hc => ?_⟩
  · rw [i6 1 (by decide) (by decide) (by decide), i5 1 (by decide)]; exact e1
  · rw [i6 2 (by decide) (by decide) (by decide), i5 2 (by decide)]; exact e2
  · rw [i6 3 (by decide) (by decide) (by decide), i5 3 (by decide)]; exact e3
  · rw [i6 4 (by decide) (by decide) (by decide), i5 4 (by decide)]; exact e4
  · obtain ⟨bm, b1, b2, b3⟩ := b5
    exact ⟨bm, b1, by rw [i6 11 (by decide) (by decide) (by decide)]; exact b2, b3⟩
  · obtain ⟨m, m1, m2, m3⟩ := p48 y hy hn'
    refine ⟨m, m1, m2, fun j hj => ?_⟩
    rw [m3 j hj]
    unfold nvS
    rw [if_neg hn']
  · rw [x6 49 (by decide) (by decide) (by decide) (by decide)]
    exact ⟨m5 j hj, msS_4 _ _⟩
  · rw [x6 50 (by decide) (by decide) (by decide) (by decide)]
    exact ⟨h5 j hj c hc, (hh_of hJ.1 hD hn hj hc).2⟩
theorem c_pass {τ τa : kT} {k d n sp lo : Nat} (hJ : J τ) (hF : FR τ τa) (h45 : q_i τa 45 0 = q_i τ 45 0) (hP : PC0 τa (q_i τ 67) k d n sp lo) (hlk : lo < k) (hk : k ≤ 6) (hkn : k ≤ N (q_i τ 67) 8523) (hd : d ≤ 6) (hdn : d ≤ N (q_i τ 67) 8525) (hn : n ≤ 5) (hlen : q_i τ 67 (2200 + lo) = nI n) {post : kT → Prop} (h : ∀ τ2, FR τ τ2 → C0 τ2 k d n sp lo (cT lo k) (nI lo) (opS (q_i τ 67)) (nvS (q_i τ 67) lo) (blS (q_i τ 67)) (msS (q_i τ 67)) (hhS (q_i τ 67)) → (∀ c, c < n → q_i τ2 51 (5 * lo + c) = nI (lcS (q_i τ 67) lo c)) → post τ2) : T_X10_doorsThatOpen (nI lo) τa (fun r24 τ25 => (T_X3_passOver (nI lo) r24 τ25 (fun τ27 => post τ27))) := by
  obtain ⟨nk, hnk, k1, k2, k3⟩ := hJ.nk
  have e67 : q_i τa 67 = q_i τ 67 := hF.1 67 (by decide)
  refine c_doors (hF.J0 hJ h45) (by rw [e67]; omega) (fun τ2 hU τ3 h3 => ⟨lo, rfl, by omega, fun τ4 h4 => ?_⟩)
  rw [e67] at h4 ⊢
  have hF4 : FR τ τ4 := by
    rw [h4, h3]
    refine FR.si (FR.si ⟨fun x hx => ?_, fun x => ?_⟩ ⟨by decide, by decide⟩ _ _) ⟨by decide, by decide⟩ _ _
    · rw [hU.1 x (by omega) (by omega) (by omega)]; exact hF.1 x hx
    · rw [hU.2 x]; exact hF.2 x
  have w45 : q_i τ4 45 = upd (q_i τa 45) 7 (nI lo) := by
    rw [h4, h3]
    show upd (q_i τ2 45) 7 (nI lo) = _
    rw [hU.1 45 (by decide) (by decide) (by decide)]
  have w48 : q_i τ4 48 = upd (q_i τa 48) lo (nI (opM (q_i τ 67) lo (dN (q_i τ 67)))) := by
    rw [h4, h3]
    show upd (q_i τ2 48) lo _ = _
    rw [hU.1 48 (by decide) (by decide) (by decide)]
  have wx : ∀ x, 46 ≤ x → x ≠ 48 → q_i τ4 x = q_i τa x := fun x n1 n2 => by
    rw [h4, q_i_si, if_neg n2, h3, q_i_si, if_neg (by omega), hU.1 x (by omega) (by omega) (by omega)]
  have el : N (q_i τ 67) (2200 + lo) = n := by unfold N; rw [hlen, nI_clamp (by omega)]
  have e10 : q_i τ 10 lo = nI n := (hJ.2.1.1 (7, lo, 0) ⟨by omega, rfl⟩).trans hlen
  obtain ⟨⟨a1, a2, a3, a4, a5, a6⟩, b2, b3, b4, b5, b6, b7, b8⟩ := hP
  have lm : opM (q_i τ 67) lo (dN (q_i τ 67)) < 2 ^ 31 := Nat.lt_of_lt_of_le (opM_lt _ _ _) (Nat.pow_le_pow_right (by decide) (by unfold dN; split <;> omega))
  have hC : ∀ τ5, (∀ x, x ≠ 51 → q_i τ5 x = q_i τ4 x) → C0 τ5 k d n sp lo (cT lo k) (nI lo) (opS (q_i τ 67)) (nvS (q_i τ 67) lo) (blS (q_i τ 67)) (msS (q_i τ 67)) (hhS (q_i τ 67)) := by
    intro τ5 h5
    refine ⟨?_, ?_, ?_, fun t ht => ?_, fun t ht => ?_, fun y hy => ?_, fun j hj => ?_, fun j hj c hc => ?_⟩
    · rw [h5 45 (by decide), w45]
      exact ⟨a1, a2, a3, a4, a5, rfl⟩
    · rw [h5 45 (by decide), w45]; exact b2
    · rw [h5 45 (by decide), w45]; exact b3
    · rw [h5 46 (by decide), wx 46 (by decide) (by decide)]; exact b4 t ht
    · rw [h5 47 (by decide), wx 47 (by decide) (by decide)]; exact b5 t ht
    · rw [h5 48 (by decide), w48]
      by_cases q : y = lo
      · rw [q, upd_eq]
        refine ⟨_, lm, rfl, fun j hj => ?_⟩
        unfold nvS
        rw [if_pos rfl]
        have hdd : j < dN (q_i τ 67) := by unfold dN; split <;> omega
        have t := opM_tb (q_i τ 67) lo j (dN (q_i τ 67))
        by_cases w : (rwK (q_i τ 67) lo (q_i τ 67 (4464 + j))).1 = 1
        · rw [t.mpr ⟨hdd, w⟩, decide_eq_true w]
        · rw [decide_eq_false w]
          exact Bool.eq_false_iff.mpr (fun u => w (t.mp u).2)
      · rw [upd_ne q]; exact b6 y hy q
    · rw [h5 49 (by decide), wx 49 (by decide) (by decide)]; exact b7 j hj
    · rw [h5 50 (by decide), wx 50 (by decide) (by decide)]; exact b8 j hj c hc
  have e453 : ∀ {τ5 : kT}, (∀ x, x ≠ 51 → q_i τ5 x = q_i τ4 x) → q_i τ5 45 3 = nI n := fun h5 => by rw [h5 45 (by decide), w45]; exact a3
  have loop : ∀ m c τ5, c + m = n → FR τ τ5 → (∀ x, x ≠ 51 → q_i τ5 x = q_i τ4 x) → (∀ c', c' < c → q_i τ5 51 (5 * lo + c') = nI (lcS (q_i τ 67) lo c')) → L_X3_passOver_15 (nI lo) (nI (opM (q_i τ 67) lo (dN (q_i τ 67)))) (fun v11 τ12 => post τ12) post (m + 1) (nI c) τ5 := by
    intro m
    induction m with
    | zero =>
      intro c τ5 hc hF5 h5 p
      have hc : c = n := by omega
      subst hc
      unfold L_X3_passOver_15
      exact br_t (by rw [e453 h5]; exact nI_le (Nat.le_refl _) (by omega)) (h τ5 hF5 (hC τ5 h5) p)
    | succ m ih =>
      intro c τ5 hc hF5 h5 p
      have ec : q_i τ 11 (lo * 18 + c) = nI (lcS (q_i τ 67) lo c) := by
        have e1 : q_i τ 11 (lo * 18 + c) = q_i τ 67 (2300 + 18 * lo + c) := hJ.2.1.1 (9, lo, c) ⟨by omega, by show c < N (q_i τ 67) (2200 + lo); rw [el]; omega⟩
        rw [e1]
        exact (hJ.1.2.2.2.2.2.2.2.2.2.2.2.1 lo c (by omega) (by omega)).1
      unfold L_X3_passOver_15
      refine br_f (by rw [e453 h5]; exact nI_ge (by omega) (by omega)) (s_cutAtB (n := nk) (m := n) (by rw [hF5.1 9 (by decide)]; exact k1) hnk (by omega) (by rw [hF5.1 10 (by decide)]; exact e10) (by omega) (by omega) ⟨lo * 5 + c, ix5 lo c, by omega, fun τ8 h8 v9 h9 => ?_⟩)
      rw [hF5.1 11 (by decide), ec, show lo * 5 + c = 5 * lo + c by omega] at h8
      subst h8
      rw [h9, show nI c + 1 = nI (c + 1) from nI_1 c]
      refine ih (c + 1) _ (by omega) (hF5.si ⟨by decide, by decide⟩ _ _) (fun x hx => by rw [q_i_si, if_neg hx]; exact h5 x hx) (fun c' hc' => ?_)
      rw [q_i_si, if_pos rfl, upd_at]
      by_cases e : c' = c
      · rw [if_pos (by rw [e]), e]
      · rw [if_neg (by omega)]; exact p c' (by omega)
  exact ⟨n + 1, loop n 0 τ4 (by omega) hF4 (fun _ _ => rfl) (fun c' hc' => absurd hc' (by omega))⟩
/-! ===== what stays true ===== -/
theorem J_srch {τ τ2 τ6 : kT} {tr : Nat} (hJ : J τ) (hF : FR τ τ2) (h45 : q_i τ2 45 0 = nI tr) (hR : RF (q_si τ2 0 4 0) τ6 tr) : J (q_si τ6 66 4 0) := by
  obtain ⟨r1, r2, r3, r4⟩ := hR
  obtain ⟨-, -, -, -, -, ⟨s3, s4, s5⟩, a7, a8, a9, -⟩ := id hJ
  have g : ∀ x, x ≠ 0 → x < 42 ∨ (59 ≤ x ∧ x ≠ 66 ∧ ¬ (70 ≤ x ∧ x < 75)) → q_i (q_si τ6 66 4 0) x = q_i τ x := fun x n0 hx => by
    rw [q_i_si, if_neg (by omega), r1 x (by omega) (by omega), q_i_si, if_neg n0]; exact hF.1 x (by omega)
  have g0 : ∀ i, i ≠ 4 → q_i (q_si τ6 66 4 0) 0 i = q_i τ 0 i := fun i hi => by
    rw [q_i_si, if_neg (by decide), r1 0 (by decide) (by decide), q_i_si, if_pos rfl, upd_ne hi, hF.1 0 (by decide)]
  have g66 : ∀ i, i ≠ 4 → i ≠ 7 → i ≠ 10 → i ≠ 14 → q_i (q_si τ6 66 4 0) 66 i = q_i τ 66 i := fun i n4 n7 n10 n14 => by
    rw [q_i_si, if_pos rfl, upd_ne n4, r3 i n7 n10 n14, q_i_si, if_neg (by decide), hF.1 66 (by decide)]
  have gg : ∀ x, x = 39 ∨ x = 40 ∨ x = 41 ∨ x = 65 ∨ x = 67 ∨ x = 68 ∨ x = 69 → q_i (q_si τ6 66 4 0) x = q_i τ x := fun x hx => g x (by omega) (by omega)
  refine hJ.keep ⟨fun x x1 x2 => g x (by omega) (by omega), fun x _ _ => ?_, gg 67 (by decide), gg 68 (by decide)⟩ ⟨g0 2 (by decide), g66 2 (by decide) (by decide) (by decide) (by decide)⟩ ⟨?_, ?_, ?_⟩ ?_ ?_ ?_ (by rw [gg 65 (by decide)])
  · show q_l τ6 x = _
    rw [r2 x]; exact hF.2 x
  · rw [g66 3 (by decide) (by decide) (by decide) (by decide), g0 3 (by decide)]; exact s3
  · have e0 : q_i (q_si τ6 66 4 0) 0 4 = 0 := by rw [q_i_si, if_neg (by decide), r1 0 (by decide) (by decide), q_i_si, if_pos rfl, upd_eq]
    rw [e0, q_i_si, if_pos rfl, upd_eq]
  · rw [g66 5 (by decide) (by decide) (by decide) (by decide), g0 5 (by decide)]; exact s5
  · rw [g66 6 (by decide) (by decide) (by decide) (by decide), gg 39 (by decide)]; exact a7
  · have e45 : q_i (q_si τ6 66 4 0) 45 0 = nI tr := by rw [q_i_si, if_neg (by decide), r1 45 (by decide) (by decide), q_i_si, if_neg (by decide)]; exact h45
    rw [e45, q_i_si, if_pos rfl, upd_ne (by decide)]; exact r4
  · rw [g66 9 (by decide) (by decide) (by decide) (by decide), gg 40 (by decide), gg 41 (by decide), gg 69 (by decide)]; exact a9
theorem J_cut {τ τ2 τr τ1 τ6 τ3 : kT} {k d n sp lo : Nat} {s' : Nat → Int32} (hJ : J τ) (hF : FR τ τ2) (h45 : q_i τ2 45 0 = nI (oS (q_i τ 67) lo k d n sp).2.2) (hr : remP τ2 τr) (hC : CO τr τ1 (q_i τ 67) d n lo (cT lo k) (oS (q_i τ 67) lo k d n sp).2.1) (hR : RF (q_si τ1 0 4 0) τ6 (oS (q_i τ 67) lo k d n sp).2.2) (hW : W1 67 (q_si (q_wi τ6 68 (q_i τ6 67)) 66 2 1) τ3 s') (hn0 : 0 < n) (hn : n ≤ 5) (hkn : k ≤ N (q_i τ 67) 8523) (hD : DOK (q_i τ 67) d n) (ho : (oS (q_i τ 67) lo k d n sp).1 = 1)
    (l1 : ∀ t, t < cT lo k → s' (2200 + key lo t) = nI n) (l2 : ∀ t, t < cT lo k → ∀ c, c < n → s' (2300 + 18 * key lo t + c) = nI ((oS (q_i τ 67) lo k d n sp).2.1 (t * n + c))) (l3 : ∀ j, j < d → ∀ c, c < n → s' (400 + 18 * cyS (q_i τ 67) j + c) = nI (Mk (opS (q_i τ 67)) (hhS (q_i τ 67)) lo n (cT lo k) (oS (q_i τ 67) lo k d n sp).2.1 j c)) (l4 : ∀ i, (∀ t, t < cT lo k → i ≠ 2200 + key lo t) → (∀ t, t < cT lo k → ∀ c, c < n → i ≠ 2300 + 18 * key lo t + c) → (∀ j, j < d → ∀ c, c < n → i ≠ 400 + 18 * cyS (q_i τ 67) j + c) → s' i = q_i τ 67 i) : J (q_si τ3 66 4 0) := by
  obtain ⟨r1, r2, r3, r4⟩ := hR
  obtain ⟨y1, y2, y3, y4, y5, y6, y7, y8⟩ := hC
  obtain ⟨w1, w2, w3⟩ := hW
  have hI := hJ.1
  obtain ⟨-, -, -, -, -, ⟨s3, s4, s5⟩, a7, a8, a9, -, z65⟩ := id hJ
  obtain ⟨-, hok⟩ := oS_ok (q_i τ 67) lo k d n sp hn0
  have hQ : ∀ q, q < cT lo k * n → QP (opS (q_i τ 67)) (msS (q_i τ 67)) lo n d (oS (q_i τ 67) lo k d n sp).2.1 q := by
    rcases hok with w | w | w
    · rw [ho] at w; exact absurd w (by decide)
    · rw [ho] at w; exact absurd w (by decide)
    · exact w.2
  have g9 : ∀ t, t < cT lo k → ∀ c, c < n → (oS (q_i τ 67) lo k d n sp).2.1 (t * n + c) ≤ 9 := fun t ht c hc => (hQ _ (dm_lt hc ht)).1
  have hkey : ∀ t, t < cT lo k → key lo t < N (q_i τ 67) 8523 := fun t ht => Nat.lt_of_lt_of_le (key_cT ht) hkn
  have hMk : ∀ j, j < d → ∀ c, c < n → Mk (opS (q_i τ 67)) (hhS (q_i τ 67)) lo n (cT lo k) (oS (q_i τ 67) lo k d n sp).2.1 j c < 1024 ∧ popc 10 (Mk (opS (q_i τ 67)) (hhS (q_i τ 67)) lo n (cT lo k) (oS (q_i τ 67) lo k d n sp).2.1 j c) ≤ msS (q_i τ 67) j := by
    intro j hj c hc
    unfold Mk
    split
    · obtain ⟨p1, p2, p3, -⟩ := hI.2.2.2.2.2.2.2.2.1 (cyS (q_i τ 67) j) c (hD j hj).2.1 (by omega)
      exact ⟨p2, p3⟩
    · have m10 : mk (opS (q_i τ 67)) lo n (oS (q_i τ 67) lo k d n sp).2.1 j c (cT lo k) < 1024 := mk_lt _ (fun t ht => g9 t ht c hc)
      refine ⟨m10, ?_⟩
      rw [← popc_0 10 21 m10]
      exact QP_ms hQ hj hc (cT lo k) (Nat.le_refl _)
  have hn' : ∀ i, i < 400 ∨ 4100 ≤ i → s' i = q_i τ 67 i := fun i hi => l4 i (fun t ht w => by have := hkey t ht; have := hI.bnd.2.1; omega) (fun t ht c hc w => by have := hkey t ht; have := hI.bnd.2.1; omega) (fun j hj c hc w => by have := (hD j hj).2.1; have := hI.bnd.1; omega)
  have hI' : InvS s' := inv_cut hI d n lo (cT lo k) _ _ hD hn hkey g9 hMk l1 l2 l3 l4 hn'
  -- reading the last state
  have x67 : q_i τ6 67 = q_i τ 67 := by rw [r1 67 (by decide) (by decide), q_i_si, if_neg (by decide), y1 67 (by decide) (by decide) (by decide), hr.1 67 (by decide) (by decide)]; exact hF.1 67 (by decide)
  have G : ∀ x, x < 66 → q_i (q_si τ3 66 4 0) x = q_i (q_si τ1 0 4 0) x := fun x hx => by
    rw [q_i_si, if_neg (by omega), w1 x (by omega), q_i_si, if_neg (by omega), q_i_wi, if_neg (by omega), r1 x (by omega) (by omega)]
  have GL : ∀ x, q_l (q_si τ3 66 4 0) x = q_l τr x := fun x => by
    show q_l τ3 x = _
    rw [w2 x]
    show q_l τ6 x = _
    rw [r2 x]
    exact y2 x
  have gr : ∀ x, 1 ≤ x → x < 20 → q_i τr x = q_i τ x := fun x x1 x2 => by rw [hr.1 x (by omega) (by omega)]; exact hF.1 x (by omega)
  have glr : ∀ x, x < 20 → q_l τr x = q_l τ x := fun x x2 => by rw [hr.2.1 x (by omega)]; exact hF.2 x
  have z67 : q_i (q_si τ3 66 4 0) 67 = s' := w3
  have z68 : q_i (q_si τ3 66 4 0) 68 = q_i τ 67 := by
    rw [q_i_si, if_neg (by decide), w1 68 (by decide), ← x67]; rfl
  have z0 : q_i (q_si τ3 66 4 0) 0 = upd (upd (q_i τ 0) 2 1) 4 0 := by
    rw [G 0 (by decide), q_i_si, if_pos rfl, y1 0 (by decide) (by decide) (by decide), hr.2.2.1, hF.1 0 (by decide)]
  have t66 : q_i τ3 66 = upd (q_i τ6 66) 2 1 := by rw [w1 66 (by decide)]; rfl
  have z66 : ∀ i, i ≠ 2 → i ≠ 4 → i ≠ 7 → i ≠ 10 → i ≠ 14 → q_i (q_si τ3 66 4 0) 66 i = q_i τ 66 i := fun i n2 n4 n7 n10 n14 => by
    rw [q_i_si, if_pos rfl, upd_ne n4, t66, upd_ne n2, r3 i n7 n10 n14, q_i_si, if_neg (by decide), y1 66 (by decide) (by decide) (by decide), hr.1 66 (by decide) (by decide), hF.1 66 (by decide)]
  have zh : ∀ x, x = 39 ∨ x = 40 ∨ x = 41 ∨ x = 65 → q_i (q_si τ3 66 4 0) x = q_i τ x := fun x hx => by
    rw [G x (by omega), q_i_si, if_neg (by omega), y1 x (by omega) (by omega) (by omega), hr.1 x (by omega) (by omega), hF.1 x (by omega)]
  have z69 : q_i (q_si τ3 66 4 0) 69 = q_i τ 69 := by
    rw [q_i_si, if_neg (by decide), w1 69 (by decide), q_i_si, if_neg (by decide), q_i_wi, if_neg (by decide), r1 69 (by decide) (by decide), q_i_si, if_neg (by decide), y1 69 (by decide) (by decide) (by decide), hr.1 69 (by decide) (by decide), hF.1 69 (by decide)]
  have z45 : q_i (q_si τ3 66 4 0) 45 0 = nI (oS (q_i τ 67) lo k d n sp).2.2 := by
    rw [G 45 (by decide), q_i_si, if_neg (by decide), y1 45 (by decide) (by decide) (by decide), hr.1 45 (by decide) (by decide)]; exact h45
  have z6610 : q_i (q_si τ3 66 4 0) 66 10 = nI (oS (q_i τ 67) lo k d n sp).2.2 := by
    rw [q_i_si, if_pos rfl, upd_ne (by decide), t66, upd_ne (by decide)]; exact r4
  have z662 : q_i (q_si τ3 66 4 0) 66 2 = 1 := by rw [q_i_si, if_pos rfl, upd_ne (by decide), t66, upd_eq]
  have z664 : q_i (q_si τ3 66 4 0) 66 4 = 0 := by rw [q_i_si, if_pos rfl, upd_eq]
  have hC1 : Corr τ1 1 s' := by
    refine corr_cut hI hJ.2.1 d n lo (cT lo k) (oS (q_i τ 67) lo k d n sp).2.1 (opS (q_i τ 67)) hD hn hkey g9 hMk l1 l2 l3 l4 y3 (fun y hy => ?_) y5 (fun i hi => ?_) y7 (fun i hi => ?_) hn' (fun x hx => ?_) (fun a b => ?_)
    · rw [y4 y hy, gr 10 (by decide) (by decide)]
    · rw [y6 i hi, gr 11 (by decide) (by decide)]
    · rw [y8 i hi, gr 5 (by decide) (by decide)]
    · rw [y1 x hx.1 hx.2.1 hx.2.2.1, gr x hx.2.2.2.1 hx.2.2.2.2]
    · rw [y2, y2, glr _ (by decide), glr _ (by decide)]
  refine ⟨by rw [z67]; exact hI', ?_, Or.inr (by rw [z0]; rfl), by rw [z662, z0]; rfl, fun _ => ⟨by rw [z68]; exact hI, ?_⟩, ⟨?_, ?_, ?_⟩, ?_, ?_, ?_, fun i hi => ⟨?_, ?_⟩, ?_⟩
  · rw [z67]
    refine hC1.congr (fun x hx => ?_) ⟨?_, ?_⟩
    · rw [G _ (by omega), q_i_si, if_neg (by omega)]
    · rw [GL, y2]
    · rw [GL, y2]
  · rw [z68]
    have := hr.2.2.2
    rw [hF.1 67 (by decide)] at this
    refine this.congr (fun x hx => ?_) ⟨GL _, GL _⟩
    rw [G _ (by omega), q_i_si, if_neg (by omega), y1 _ (by omega) (by omega) (by omega)]
  · rw [z66 3 (by decide) (by decide) (by decide) (by decide) (by decide), z0]; exact s3
  · rw [z664, z0]; rfl
  · rw [z66 5 (by decide) (by decide) (by decide) (by decide) (by decide), z0]; exact s5
  · rw [z66 6 (by decide) (by decide) (by decide) (by decide) (by decide), zh 39 (by decide)]; exact a7
  · rw [z6610, z45]
  · rw [z66 9 (by decide) (by decide) (by decide) (by decide) (by decide), zh 40 (by decide), zh 41 (by decide), z69]; exact a9
  · rw [z67, hn' i (by omega)]; exact (hJ.hz i hi).1
  · rw [z68]; exact (hJ.hz i hi).1
  · rw [zh 65 (by decide)]; exact z65
