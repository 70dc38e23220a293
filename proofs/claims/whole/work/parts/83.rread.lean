/-! ===== what the reference reads ===== -/
theorem r_would2 {τ : kT} (hI : InvS (q_i τ 67)) (h9 : ∃ m, m ≤ 1000 ∧ q_i τ 66 9 = nI m) {k d : Nat} (hk : k < N (q_i τ 67) 8523) (hd : d < N (q_i τ 67) 8525) {post : Int32 → kT → Prop} (h1 : (rwK (q_i τ 67) k (q_i τ 67 (4464 + d))).1 = 1 → ∀ τ2, VS τ τ2 → post 1 τ2) (h0 : (rwK (q_i τ 67) k (q_i τ 67 (4464 + d))).1 ≠ 1 → ∀ τ2, VS τ τ2 → post 0 τ2) : T_X11_would (nI k) (nI d) τ post := by
  have hd40 : d < 40 := Nat.lt_of_lt_of_le hd hI.bnd.2.2.2.1
  obtain ⟨m, hm, t2⟩ := h9
  have hv := hI.2.2.2.2.2.2.2.2.2.2.2.2.2.2.2 d hd
  refine ⟨4464 + d, nI_add 4464 d, by omega, ?_⟩
  refine r_tried (τ := τ) (b := 0) (n := m) (f := q_i τ 69) (sp := q_i τ 66 7) hI ⟨fun _ _ _ => rfl, fun _ => rfl, fun _ _ _ => rfl, t2, rfl, rfl⟩ (by omega) hk hv (fun τ3 h3 => ?_)
  have hV : VS τ τ3 := by
    obtain ⟨r1, r2, r3, r4, r5, r6⟩ := h3
    have e0 : ∀ l, lt 0 l = [] := fun l => by unfold lt; rw [if_pos rfl]
    rw [e0] at r4 r5
    refine ⟨fun x n1 => ?_, fun k n7 => ?_, r2⟩
    · by_cases n2 : x = 69
      · rw [n2]; exact r5
      · exact r1 x n1 n2
    · by_cases n9 : k = 9
      · rw [n9, r4]; exact t2.symm
      · exact r3 k n9 n7
  refine ⟨fun q => h0 (fun y => q ((cR_1 (rwK_1 _ _ _)).mpr y)) τ3 hV, fun q => h1 ((cR_1 (rwK_1 _ _ _)).mp q) τ3 hV⟩
def GR (τ τ2 : kT) : Prop := (∀ x, x ≠ 66 → x ≠ 70 → x ≠ 72 → x ≠ 73 → q_i τ2 x = q_i τ x) ∧ (∀ x, q_l τ2 x = q_l τ x) ∧ (∀ i, i ≠ 7 → i ≠ 14 → q_i τ2 66 i = q_i τ 66 i)
theorem GR.si {τ τ2 : kT} (h : GR τ τ2) {x : Nat} (hx : x = 70 ∨ x = 72 ∨ x = 73) (k : Nat) (v : Int32) : GR τ (q_si τ2 x k v) := ⟨fun y n1 n2 n3 n4 => by rw [q_i_si, if_neg (by omega)]; exact h.1 y n1 n2 n3 n4, h.2.1, fun i n1 n2 => by rw [q_i_si, if_neg (by omega)]; exact h.2.2 i n1 n2⟩
theorem GR.s14 {τ τ2 : kT} (h : GR τ τ2) (v : Int32) : GR τ (q_si τ2 66 14 v) := ⟨fun y n1 n2 n3 n4 => by rw [q_i_si, if_neg n1]; exact h.1 y n1 n2 n3 n4, h.2.1, fun i n1 n2 => by rw [q_i_si, if_pos rfl, upd_ne n2]; exact h.2.2 i n1 n2⟩
theorem GR.vs {τ τ2 τ3 : kT} (h : GR τ τ2) (h2 : VS τ2 τ3) : GR τ τ3 := ⟨fun y n1 n2 n3 n4 => by rw [h2.1 y n1]; exact h.1 y n1 n2 n3 n4, fun x => by rw [h2.2.2 x]; exact h.2.1 x, fun i n1 n2 => by rw [h2.2.1 i n1]; exact h.2.2 i n1 n2⟩
def shS (s : Nat → Int32) (lo y j : Nat) : Int32 := if y = lo then (if (rwK s lo (s (4464 + j))).1 = 1 then 2 else 0) else s (4504 + 40 * y + j)
theorem r_read {τ τa : kT} {k d n lo : Nat} {lv sp f6 : Int32} (hI : InvS (q_i τ 67)) (h9 : ∃ m, m ≤ 1000 ∧ q_i τ 66 9 = nI m) (hG : GR τ τa) (e14 : q_i τa 66 14 = 0) (hk : k ≤ 6) (hkn : k ≤ N (q_i τ 67) 8523) (hd : d ≤ 6) (hdn : d ≤ N (q_i τ 67) 8525) (hn : n ≤ 5) (hl1 : lo < k → lv = nI lo) (hl2 : ¬ lo < k → lv = -1) (hlen : lo < k → q_i τ 67 (2200 + lo) = nI n) {K : Int32 → kT → Prop} {post : Int32 → kT → Prop} (h : ∀ v τ2, GR τ τ2 → q_i τ2 66 14 = nI (cT lo k) → (∀ t, t < cT lo k → q_i τ2 72 t = nI (key lo t)) → (∀ y, y < k → ∀ j, j < d → q_i τ2 73 (6 * y + j) = shS (q_i τ 67) lo y j) → (lo < k → ∀ c, c < n → q_i τ2 70 (5 * lo + c) = nI (lcS (q_i τ 67) lo c)) → K v τ2) : ∃ m46 : Nat, L_X11_searched_41 lv (nI k) (nI d) (nI n) sp f6 K post m46 (0 : Int32) τa := by
  have isL : ∀ y, y < k → (nI y = lv ↔ y = lo) := by
    intro y hy
    by_cases q : lo < k
    · rw [hl1 q]; exact nI_eq (by omega) (by omega)
    · rw [hl2 q]
      exact ⟨fun w => absurd w (nI_m1 (by omega)), fun w => absurd (by omega) q⟩
  have e67 : ∀ {τ' : kT}, GR τ τ' → q_i τ' 67 = q_i τ 67 := fun hG => hG.1 67 (by decide) (by decide) (by decide) (by decide)
  -- the wishes of a key
  have wish : ∀ {y : Nat} (hy : y < k) (τ2 : kT) (K2 : Int32 → kT → Prop), GR τ τ2 → (∀ y', y' < y → ∀ j, j < d → q_i τ2 73 (6 * y' + j) = shS (q_i τ 67) lo y' j) → (∀ v τ3, GR τ τ3 → q_i τ3 66 14 = q_i τ2 66 14 → q_i τ3 72 = q_i τ2 72 → q_i τ3 70 = q_i τ2 70 → (∀ y', y' < y + 1 → ∀ j, j < d → q_i τ3 73 (6 * y' + j) = shS (q_i τ 67) lo y' j) → K2 v τ3) → ∃ m23 : Nat, L_X11_searched_77 lv (nI k) (nI d) (nI n) sp f6 (nI y) K2 post m23 (0 : Int32) τ2 := by
    intro y hy τ2 K2 h2 hs hK
    have loop : ∀ m j τ3, j + m = d → GR τ τ3 → q_i τ3 66 14 = q_i τ2 66 14 → q_i τ3 72 = q_i τ2 72 → q_i τ3 70 = q_i τ2 70 → (∀ y', y' < y → ∀ j, j < d → q_i τ3 73 (6 * y' + j) = shS (q_i τ 67) lo y' j) → (∀ j', j' < j → q_i τ3 73 (6 * y + j') = shS (q_i τ 67) lo y j') → L_X11_searched_77 lv (nI k) (nI d) (nI n) sp f6 (nI y) K2 post (m + 1) (nI j) τ3 := by
      intro m
      induction m with
      | zero =>
        intro j τ3 hj h3 u1 u2 u3 u4 u5
        have hj : j = d := by omega
        subst hj
        unfold L_X11_searched_77
        refine br_t (nI_le (Nat.le_refl _) (by omega)) (hK _ τ3 h3 u1 u2 u3 (fun y' hy' j' hj' => ?_))
        by_cases e : y' = y
        · rw [e]; exact u5 j' hj'
        · exact u4 y' (by omega) j' hj'
      | succ m ih =>
        intro j τ3 hj h3 u1 u2 u3 u4 u5
        have hjd : j < d := by omega
        have nx : ∀ (τ4 τ5 : kT), GR τ τ4 → q_i τ4 66 14 = q_i τ2 66 14 → q_i τ4 72 = q_i τ2 72 → q_i τ4 70 = q_i τ2 70 → q_i τ4 73 = q_i τ3 73 → τ5 = q_si τ4 73 (6 * y + j) (shS (q_i τ 67) lo y j) → L_X11_searched_77 lv (nI k) (nI d) (nI n) sp f6 (nI y) K2 post (m + 1) (nI (j + 1)) τ5 := by
          intro τ4 τ5 h4 w1 w2 w3 w4 h5
          subst h5
          refine ih (j + 1) _ (by omega) (h4.si (Or.inr (Or.inr rfl)) _ _) w1 w2 w3 (fun y' hy' j' hj' => ?_) (fun j' hj' => ?_)
          · rw [q_i_si, if_pos rfl, upd_ne (by omega), w4]; exact u4 y' hy' j' hj'
          · rw [q_i_si, if_pos rfl, upd_at]
            by_cases e : j' = j
            · rw [if_pos (by rw [e]), e]
            · rw [if_neg (by omega), w4]; exact u5 j' (by omega)
        unfold L_X11_searched_77
        refine br_f (nI_ge (by omega) (by omega)) ⟨4504 + 40 * y + j, ev_3 4504 40 y j, by omega, fun v9 h9' => ?_⟩
        rw [e67 h3] at h9'
        by_cases q : y = lo
        · refine br_t ((isL y hy).mpr q) ?_
          refine r_would2 (by rw [e67 h3]; exact hI) (by rw [h3.2.2 9 (by decide) (by decide)]; exact h9) (by rw [e67 h3]; omega) (by rw [e67 h3]; omega) (fun w τ4 h4 => br_f (by decide) ⟨6 * y + j, ixl 6 y j, by omega, fun τ18 h18 v19 h19 => ?_⟩) (fun w τ4 h4 => br_t rfl ⟨6 * y + j, ixl 6 y j, by omega, fun τ15 h15 v16 h16 => ?_⟩)
          · rw [e67 h3] at w
            rw [h19, show nI j + 1 = nI (j + 1) from nI_1 j]
            refine nx τ4 τ18 (h3.vs h4) (by rw [h4.2.1 14 (by decide)]; exact u1) (by rw [h4.1 72 (by decide)]; exact u2) (by rw [h4.1 70 (by decide)]; exact u3) (h4.1 73 (by decide)) ?_
            rw [h18]
            congr 1
            unfold shS
            rw [if_pos q, if_pos (by rw [← q]; exact w)]
          · rw [e67 h3] at w
            rw [h16, show nI j + 1 = nI (j + 1) from nI_1 j]
            refine nx τ4 τ15 (h3.vs h4) (by rw [h4.2.1 14 (by decide)]; exact u1) (by rw [h4.1 72 (by decide)]; exact u2) (by rw [h4.1 70 (by decide)]; exact u3) (h4.1 73 (by decide)) ?_
            rw [h15]
            congr 1
            unfold shS
            rw [if_pos q, if_neg (by rw [← q]; exact w)]
        · refine br_f (fun w => q ((isL y hy).mp w)) ⟨6 * y + j, ixl 6 y j, by omega, fun τ21 h21 v22 h22 => ?_⟩
          rw [h22, show nI j + 1 = nI (j + 1) from nI_1 j]
          refine nx τ3 τ21 h3 u1 u2 u3 rfl ?_
          rw [h21, h9']
          congr 1
          unfold shS
          rw [if_neg q]
    exact ⟨d + 1, loop d 0 τ2 (by omega) h2 rfl rfl rfl hs (fun j' hj' => absurd hj' (by omega))⟩
  -- the cuts of the lost key
  have cuts : ∀ {y : Nat} (hy : y < k) (τ2 : kT) (K2 : Int32 → kT → Prop), GR τ τ2 → (∀ v τ3, GR τ τ3 → q_i τ3 66 14 = q_i τ2 66 14 → q_i τ3 72 = q_i τ2 72 → q_i τ3 73 = q_i τ2 73 → (y ≠ lo → q_i τ3 70 = q_i τ2 70) → (y = lo → ∀ c, c < n → q_i τ3 70 (5 * lo + c) = nI (lcS (q_i τ 67) lo c)) → K2 v τ3) → ∃ m32 : Nat, L_X11_searched_151 lv (nI k) (nI d) (nI n) sp f6 (nI y) K2 post m32 (0 : Int32) τ2 := by
    intro y hy τ2 K2 h2 hK
    by_cases q : y = lo
    · have lok : lo < k := by omega
      have loop : ∀ m c τ3, c + m = n → GR τ τ3 → q_i τ3 66 14 = q_i τ2 66 14 → q_i τ3 72 = q_i τ2 72 → q_i τ3 73 = q_i τ2 73 → (∀ c', c' < c → q_i τ3 70 (5 * lo + c') = nI (lcS (q_i τ 67) lo c')) → L_X11_searched_151 lv (nI k) (nI d) (nI n) sp f6 (nI y) K2 post (m + 1) (nI c) τ3 := by
        intro m
        induction m with
        | zero =>
          intro c τ3 hc h3 u1 u2 u3 u4
          have hc : c = n := by omega
          subst hc
          unfold L_X11_searched_151
          exact br_t (nI_le (Nat.le_refl _) (by omega)) (hK _ τ3 h3 u1 u2 u3 (fun w => absurd q w) (fun _ => u4))
        | succ m ih =>
          intro c τ3 hc h3 u1 u2 u3 u4
          have el : N (q_i τ 67) (2200 + lo) = n := by unfold N; rw [hlen lok, nI_clamp (by omega)]
          have ec : q_i τ 67 (2300 + 18 * y + c) = nI (lcS (q_i τ 67) lo c) := by
            rw [q]
            exact (hI.2.2.2.2.2.2.2.2.2.2.2.1 lo c (by omega) (by omega)).1
          unfold L_X11_searched_151
          refine br_f (nI_ge (by omega) (by omega)) (bn_f ((isL y hy).mpr q) ⟨2300 + 18 * y + c, ev_3 2300 18 y c, by omega, 5 * y + c, ixl 5 y c, by omega, fun τ30 h30 v31 h31 => ?_⟩)
          rw [e67 h3, ec] at h30
          subst h30
          rw [h31, show nI c + 1 = nI (c + 1) from nI_1 c]
          refine ih (c + 1) _ (by omega) (h3.si (Or.inl rfl) _ _) u1 u2 u3 (fun c' hc' => ?_)
          rw [q_i_si, if_pos rfl, upd_at, ← q]
          by_cases e : c' = c
          · rw [if_pos (by rw [e]), e]
          · rw [if_neg (by omega), q]; exact u4 c' (by omega)
      exact ⟨n + 1, loop n 0 τ2 (by omega) h2 rfl rfl rfl (fun c' hc' => absurd hc' (by omega))⟩
    · refine ⟨1, ?_⟩
      have good : ∀ v, K2 v τ2 := fun v => hK v τ2 h2 rfl rfl rfl (fun _ => rfl) (fun w => absurd w q)
      unfold L_X11_searched_151
      exact ⟨fun _ => good _, fun _ => bn_t (fun w => q ((isL y hy).mp w)) (good _)⟩
  have loop : ∀ m y τ2, y + m = k → GR τ τ2 → q_i τ2 66 14 = nI (cT lo y) → (∀ t, t < cT lo y → q_i τ2 72 t = nI (key lo t)) → (∀ y', y' < y → ∀ j, j < d → q_i τ2 73 (6 * y' + j) = shS (q_i τ 67) lo y' j) → (lo < y → ∀ c, c < n → q_i τ2 70 (5 * lo + c) = nI (lcS (q_i τ 67) lo c)) → L_X11_searched_41 lv (nI k) (nI d) (nI n) sp f6 K post (m + 1) (nI y) τ2 := by
    intro m
    induction m with
    | zero =>
      intro y τ2 hy h2 u1 u2 u3 u4
      have hy : y = k := by omega
      subst hy
      unfold L_X11_searched_41
      exact br_t (nI_le (Nat.le_refl _) (by omega)) (h _ τ2 h2 u1 u2 u3 u4)
    | succ m ih =>
      intro y τ2 hy h2 u1 u2 u3 u4
      have hyk : y < k := by omega
      have cle : cT lo y ≤ y := by unfold cT; split <;> omega
      unfold L_X11_searched_41
      refine br_f (nI_ge (by omega) (by omega)) ?_
      by_cases q : y = lo
      · refine br_t ((isL y hyk).mpr q) (wish hyk τ2 _ h2 u3 (fun v τ3 h3 w1 w2 w3 w4 => cuts hyk τ3 _ h3 (fun v2 τ4 h4 x1 x2 x3 x4 x5 v35 h35 => ?_)))
        rw [h35, show nI y + 1 = nI (y + 1) from nI_1 y]
        have ec : cT lo (y + 1) = cT lo y := by rw [q]; exact cT_l lo
        refine ih (y + 1) τ4 (by omega) h4 (by rw [x1, w1, ec]; exact u1) (fun t ht => by rw [ec] at ht; rw [x2, w2]; exact u2 t ht) (by rw [x3]; exact w4) (fun _ => x5 q)
      · obtain ⟨ec, ek⟩ := cT_s (lo := lo) (y := y) q
        refine br_f (fun w => q ((isL y hyk).mp w)) ⟨cT lo y, u1, by omega, fun τ37 h37 τ38 h38 => ?_⟩
        have e3714 : q_i τ37 66 14 = nI (cT lo y) := by rw [h37]; exact u1
        rw [e3714] at h38
        have h38 : τ38 = q_si τ37 66 14 (nI (cT lo y + 1)) := by rw [h38]; exact congrArg (q_si τ37 66 14) (nI_1 _)
        have h38G : GR τ τ38 := by rw [h38, h37]; exact (h2.si (Or.inr (Or.inl rfl)) _ _).s14 _
        have w72 : q_i τ38 72 = upd (q_i τ2 72) (cT lo y) (nI y) := by rw [h38, h37]; rfl
        have w73 : q_i τ38 73 = q_i τ2 73 := by rw [h38, h37]; rfl
        have w70 : q_i τ38 70 = q_i τ2 70 := by rw [h38, h37]; rfl
        have w14 : q_i τ38 66 14 = nI (cT lo y + 1) := by rw [h38]; rfl
        refine wish hyk τ38 _ h38G (by rw [w73]; exact u3) (fun v τ3 h3 y1 y2 y3 y4 => cuts hyk τ3 _ h3 (fun v2 τ4 h4 x1 x2 x3 x4 x5 v45 h45 => ?_))
        rw [h45, show nI y + 1 = nI (y + 1) from nI_1 y]
        refine ih (y + 1) τ4 (by omega) h4 (by rw [x1, y1, ec]; exact w14) (fun t ht => ?_) (by rw [x3]; exact y4) (fun hlo => by rw [x4 q, y3, w70]; exact u4 (by omega))
        rw [ec] at ht
        rw [x2, y2, w72, upd_at]
        by_cases e : t = cT lo y
        · rw [if_pos e, e, ek]
        · rw [if_neg e]; exact u2 t (by omega)
  have c0 : cT lo 0 = 0 := by unfold cT; rw [if_neg (by omega)]
  exact ⟨k + 1, loop k 0 τa (by omega) hG (by rw [c0]; exact e14) (fun t ht => by rw [c0] at ht; exact absurd ht (by omega)) (fun y' hy' => absurd hy' (by omega)) (fun w => absurd w (by omega))⟩
/-! the search, as a whole -/
noncomputable def oS (s : Nat → Int32) (lo k d n sp : Nat) : Out := tryP (stP (opS s) (msS s) (lcS s lo) (lo < k) lo n d sp) (nmP (opS s) (nvS s lo) (hhS s) (blS s) (lcS s lo) lo n (cT lo k) k d) (cT lo k * n) (cT lo k * n) (fun _ => 0) 0
theorem hx_all {s : Nat → Int32} {lo k d n sp : Nat} (hn : 0 < n) : ∀ r, r ≤ cT lo k * n → ∀ g tr, tr ≤ 4000 → (tryP (stP (opS s) (msS s) (lcS s lo) (lo < k) lo n d sp) (nmP (opS s) (nvS s lo) (hhS s) (blS s) (lcS s lo) lo n (cT lo k) k d) (cT lo k * n) r g tr).2.2 ≤ 4000 ∧ ((tryP (stP (opS s) (msS s) (lcS s lo) (lo < k) lo n d sp) (nmP (opS s) (nvS s lo) (hhS s) (blS s) (lcS s lo) lo n (cT lo k) k d) (cT lo k * n) r g tr).1 = 0 ∨ (tryP (stP (opS s) (msS s) (lcS s lo) (lo < k) lo n d sp) (nmP (opS s) (nvS s lo) (hhS s) (blS s) (lcS s lo) lo n (cT lo k) k d) (cT lo k * n) r g tr).1 = 1 ∨ (tryP (stP (opS s) (msS s) (lcS s lo) (lo < k) lo n d sp) (nmP (opS s) (nvS s lo) (hhS s) (blS s) (lcS s lo) lo n (cT lo k) k d) (cT lo k * n) r g tr).1 = 2) := by
  intro r hr g tr ht
  have h := tryP_ok (st := stP (opS s) (msS s) (lcS s lo) (lo < k) lo n d sp) (Q := fun _ _ => True) (nm := nmP (opS s) (nvS s lo) (hhS s) (blS s) (lcS s lo) lo n (cT lo k) k d) (M := cT lo k * n) (fun _ _ _ _ _ => trivial) (fun _ _ _ _ => trivial) r hr g tr ht (fun _ _ => trivial)
  refine ⟨h.2.1, ?_⟩
  rcases h.2.2 with w | w | w
  · exact Or.inl w
  · exact Or.inr (Or.inr w)
  · exact Or.inr (Or.inl w.1)
theorem oS_ok (s : Nat → Int32) (lo k d n sp : Nat) (hn : 0 < n) : (oS s lo k d n sp).2.2 ≤ 4000 ∧ ((oS s lo k d n sp).1 = 0 ∨ (oS s lo k d n sp).1 = 2 ∨ ((oS s lo k d n sp).1 = 1 ∧ ∀ q, q < cT lo k * n → QP (opS s) (msS s) lo n d (oS s lo k d n sp).2.1 q)) := by
  have h := tryP_ok (st := stP (opS s) (msS s) (lcS s lo) (lo < k) lo n d sp) (Q := QP (opS s) (msS s) lo n d) (nm := nmP (opS s) (nvS s lo) (hhS s) (blS s) (lcS s lo) lo n (cT lo k) k d) (M := cT lo k * n) (QP_congr hn) QP_st (cT lo k * n) (Nat.le_refl _) (fun _ => 0) 0 (by omega) (fun q hq => absurd hq (by omega))
  refine ⟨h.2.1, ?_⟩
  rcases h.2.2 with w | w | w
  · exact Or.inl w
  · exact Or.inr (Or.inl w)
  · exact Or.inr (Or.inr ⟨w.1, w.2.2⟩)
theorem Sz_of {k d n sp lo : Nat} {lv : Int32} (hk : k ≤ 6) (hd : d ≤ 6) (hn0 : 0 < n) (hn : n ≤ 5) (hs : sp < 10) (hl1 : lo < k → lv = nI lo) (hl2 : ¬ lo < k → lv = -1) : Sz k d n sp lo (cT lo k) lv := by
  refine ⟨hk, hd, hn0, hn, hs, ?_, fun t ht => key_cT ht, hl1, hl2, fun y hy hn => ?_⟩
  · unfold cT; split <;> omega
  · unfold cT
    split <;> split <;> omega
theorem r_search {τ0 : kT} {k d n sp lo : Nat} {lv : Int32} {s : Nat → Int32} {cy : Nat → Nat} (hS : Sz k d n sp lo (cT lo k) lv) (h0 : R0 τ0 k d n lo (cT lo k) (opS s) (nvS s lo) (blS s) (msS s) cy (hhS s)) (hlc : ∀ c, c < n → lcS s lo c ≤ 9) (h70 : lo < k → ∀ c, c < n → q_i τ0 70 (5 * lo + c) = nI (lcS s lo c)) (h10 : q_i τ0 66 10 = 0) {post : Int32 → kT → Prop}
    (hP0 : (oS s lo k d n sp).1 = 0 → ∀ τ2, RRel τ0 τ2 k n lo (lcS s lo) 0 (oS s lo k d n sp).2.1 (oS s lo k d n sp).2.2 → post 0 τ2) (hP1 : (oS s lo k d n sp).1 = 1 → ∀ τ2, RRel τ0 τ2 k n lo (lcS s lo) (cT lo k * n) (oS s lo k d n sp).2.1 (oS s lo k d n sp).2.2 → mask τ2 (opS s) (hhS s) lo n (cT lo k) d (oS s lo k d n sp).2.1 → post 1 τ2) (hP2 : (oS s lo k d n sp).1 = 2 → ∀ τ2, RRel τ0 τ2 k n lo (lcS s lo) 0 (oS s lo k d n sp).2.1 (oS s lo k d n sp).2.2 → post (-5) τ2) : T_X11_search lv (nI k) (nI d) (nI n) (nI sp) τ0 post := by
  obtain ⟨z1, z2, z3, z4, z5, z6, -⟩ := id hS
  obtain ⟨a1, -⟩ := id h0
  have R00 : ∀ g, RRel τ0 τ0 k n lo (lcS s lo) 0 g 0 := fun g => ⟨⟨fun _ _ _ _ _ => rfl, fun _ => rfl, fun _ _ => rfl, h10⟩, fun q hq => absurd hq (by omega), h70⟩
  unfold T_X11_search
  rw [a1]
  by_cases t0 : cT lo k = 0
  · have e : oS s lo k d n sp = (cif (nmP (opS s) (nvS s lo) (hhS s) (blS s) (lcS s lo) lo n (cT lo k) k d (fun _ => 0)) 1 0, (fun _ => 0), 0) := by
      unfold oS
      rw [show cT lo k * n = 0 by rw [t0, Nat.zero_mul]]
      unfold tryP
      rfl
    rw [e] at hP0 hP1
    refine bn_f (by rw [t0]; rfl) ?_
    have m0 : cT lo k * n = 0 := by rw [t0, Nat.zero_mul]
    refine r_never hS h0 hlc (g := fun _ => 0) (tr := 0) (by rw [m0]; exact R00 _) (fun τ2 h2 hm2 h71 => ⟨fun y => br_f (by decide) (hP1 (cif_t y) τ2 h2 hm2), fun y => br_t rfl (hP0 (cif_f y) τ2 (by rw [m0] at h2; exact h2))⟩)
  · refine bn_t (fun y => t0 ((nI_eq (b := 0) (by omega) (by decide)).mp y)) (fun τ2 h2 => ?_)
    obtain ⟨r, hr⟩ : ∃ r, cT lo k * n = r + 1 := ⟨cT lo k * n - 1, by have := Nat.mul_pos (Nat.pos_of_ne_zero t0) z3; omega⟩
    have hR2 : RRel τ0 τ2 k n lo (lcS s lo) 0 (fun _ => 0) 0 := by
      obtain ⟨⟨u1, u2, u3, u4⟩, u5, u6⟩ := R00 (fun _ => 0)
      rw [h2]
      exact ⟨⟨fun x n1 n2 n3 n4 => by rw [q_i_si, if_neg n3], u2, u3, u4⟩, u5, u6⟩
    refine ⟨cP (stP (opS s) (msS s) (lcS s lo) (lo < k) lo n d sp) (nmP (opS s) (nvS s lo) (hhS s) (blS s) (lcS s lo) lo n (cT lo k) k d) (cT lo k * n) (r + 1) (fun _ => 0) 0 + 1, ?_⟩
    refine r_tryP hS h0 hlc (hx_all z3) r 0 (fun _ => 0) 0 τ2 1 (by omega) (by omega) hR2 (by rw [h2]; rfl) (oS s lo k d n sp) (by unfold oS; rw [← hr]) (fun o0 τ3 h3 _ => ?_) hP1 hP2
    unfold L_X11_search_34
    exact br_t (by decide) (hP0 o0 τ3 h3)
