/-! ===== the reference's search ===== -/
def R0 (τ0 : kT) (k d n lo T : Nat) (op nv : Nat → Nat → Bool) (bl : Nat → Bool) (ms cy : Nat → Nat) (hh : Nat → Nat → Nat) : Prop :=
  q_i τ0 66 14 = nI T ∧ (∀ t, t < T → q_i τ0 72 t = nI (key lo t)) ∧ (∀ t, t < T → ∀ j, j < d → (q_i τ0 73 (6 * key lo t + j) = 1 ↔ op (key lo t) j = true)) ∧
  (∀ y, y < k → ∀ j, j < d → (q_i τ0 73 (6 * y + j) = 2 ↔ nv y j = true)) ∧
  (∀ j, j < d → cy j < 100 ∧ q_i τ0 67 (4464 + j) = nI (cy j) ∧ ∃ kd, kd < 4 ∧ q_i τ0 67 (cy j) = nI kd ∧ ms j = mostK kd ∧ (bl j = true ↔ kd = 3)) ∧
  (∀ j, j < d → ∀ c, c < n → q_i τ0 67 (400 + 18 * cy j + c) = nI (hh j c) ∧ hh j c < 1024)
def RRel (τ0 τ : kT) (k n lo : Nat) (lc : Nat → Nat) (p : Nat) (g : Nat → Nat) (tr : Nat) : Prop :=
  ((∀ x, x ≠ 66 → x ≠ 70 → x ≠ 71 → x ≠ 74 → q_i τ x = q_i τ0 x) ∧ (∀ x, q_l τ x = q_l τ0 x) ∧ (∀ i, i ≠ 10 → q_i τ 66 i = q_i τ0 66 i) ∧ q_i τ 66 10 = nI tr) ∧
  (∀ q, q < p → q_i τ 70 (ix n lo q) = nI (g q) ∧ g q ≤ 9) ∧ (lo < k → ∀ c, c < n → q_i τ 70 (5 * lo + c) = nI (lc c))
theorem RRel.mono {τ0 τ : kT} {k n lo p p' tr : Nat} {lc g : Nat → Nat} (h : RRel τ0 τ k n lo lc p g tr) (h1 : p' ≤ p) : RRel τ0 τ k n lo lc p' g tr := ⟨h.1, fun q hq => h.2.1 q (by omega), h.2.2⟩
theorem nI_div {a b : Nat} (hb : 0 < b) (ha : a < 2 ^ 30) (hb2 : b < 2 ^ 30) : nI a / nI b = nI (a / b) := by
  have h1 : a / b ≤ a := Nat.div_le_self a b
  rw [i_eq, Int32.toInt_div, nI_toInt (by omega), nI_toInt (by omega), nI_toInt (by omega), Int.tdiv_eq_ediv_of_nonneg (by omega)]
  have e : (a : Int) / (b : Int) = ((a / b : Nat) : Int) := rfl
  rw [e]
  generalize a / b = z at h1 ⊢
  rw [Int.bmod_eq_of_le] <;> omega
theorem nI_mod {a b : Nat} (hb : 0 < b) (ha : a < 2 ^ 30) (hb2 : b < 2 ^ 30) : nI a - nI a / nI b * nI b = nI (a % b) := by
  have e := dm_e b a
  have hm := Nat.mod_lt a hb
  have h1 : a / b * b ≤ a := by omega
  rw [nI_div hb ha hb2, show nI (a / b) * nI b = nI (a / b * b) from pk_mul _ _, i_eq, pk_sub_toInt ha (by omega), nI_toInt (by omega)]
  generalize a / b * b = z at e h1 ⊢
  omega
theorem ixl (m a c : Nat) : nI m * nI a + nI c = nI (m * a + c) := by rw [show nI m * nI a = nI (m * a) from pk_mul m a, nI_add]
theorem r_cutsAt {τ0 τ : kT} {k d n lo T : Nat} {op nv : Nat → Nat → Bool} {bl : Nat → Bool} {ms cy lc : Nat → Nat} {hh : Nat → Nat → Nat} (h0 : R0 τ0 k d n lo T op nv bl ms cy hh) (hk : ∀ t, t < T → key lo t < 6) (hd : d ≤ 6) (hT : T ≤ 6) (h5 : n ≤ 5) {p tr j c u : Nat} {g : Nat → Nat} {f3 : Int32} (hR : RRel τ0 τ k n lo lc p g tr) (hj : j < d) (hc : c < n) (hu : u ≤ T) (hf3 : ∀ t, t ≤ 6 → (f3 < nI t ↔ u ≤ t)) (hp : ∀ t, t < u → t * n + c < p) {post : Int32 → kT → Prop} (h : post (nI (mk op lo n g j c u)) τ) : T_X11_cutsAt (nI j) (nI c) f3 τ post := by
  obtain ⟨a1, a2, a3, -⟩ := h0
  have e72 : ∀ t, t < T → q_i τ 72 t = nI (key lo t) := fun t ht => by rw [hR.1.1 72 (by decide) (by decide) (by decide) (by decide)]; exact a2 t ht
  have loop : ∀ m t, t + m = u → L_X11_cutsAt_6 (nI j) (nI c) f3 (fun v12 v13 τ14 => post v12 τ14) post (m + 1) (nI (mk op lo n g j c t)) (nI t) τ := by
    intro m
    induction m with
    | zero =>
      intro t ht
      have ht : t = u := by omega
      subst ht
      unfold L_X11_cutsAt_6
      exact br_t ((hf3 t (by omega)).mpr (Nat.le_refl _)) h
    | succ m ih =>
      intro t ht
      have htT : t < T := by omega
      have hkt := hk t htT
      have s3 := a3 t htT j hj
      obtain ⟨g1, g2⟩ := hR.2.1 (t * n + c) (hp t (by omega))
      rw [ix_of hc] at g1
      have nx := ih (t + 1) (by omega)
      unfold L_X11_cutsAt_6
      refine br_f (fun y => by have := (hf3 t (by omega)).mp y; omega) ⟨t, rfl, by omega, 6 * key lo t + j, by rw [e72 t htT]; exact ixl 6 (key lo t) j, by omega, ?_⟩
      rw [hR.1.1 73 (by decide) (by decide) (by decide) (by decide)]
      by_cases q : op (key lo t) j = true
      · refine bn_f (s3.mpr q) ⟨t, rfl, by omega, 5 * key lo t + c, by rw [e72 t htT]; exact ixl 5 (key lo t) c, by omega, fun v9 h9 v10 h10 => ?_⟩
        rw [g1, b_sh1 _ (by omega), b_or] at h9
        have e : mk op lo n g j c (t + 1) = mk op lo n g j c t ||| 2 ^ (g (t * n + c)) := by
          show (if op (key lo t) j then _ else _) = _
          rw [q, if_pos rfl]
        rw [h10, h9, show nI t + 1 = nI (t + 1) from nI_1 t, ← e]
        exact nx
      · refine bn_t (fun y => q (s3.mp y)) (fun v5 h5 v6 h6 => ?_)
        rw [show (0 : Int32) = nI 0 from rfl, b_or, Nat.or_zero] at h5
        have e : mk op lo n g j c (t + 1) = mk op lo n g j c t := by
          show (if op (key lo t) j then _ else _) = _
          rw [if_neg q]
        rw [h6, h5, show nI t + 1 = nI (t + 1) from nI_1 t, ← e]
        exact nx
  exact ⟨u + 1, loop u 0 (by omega)⟩
theorem r_alike {τ : kT} {n a b : Nat} (h5 : n ≤ 5) (ha : a < 6) (hb : b < 6) {post : Int32 → kT → Prop} (h1 : (∀ c, c < n → q_i τ 70 (5 * a + c) = q_i τ 70 (5 * b + c)) → post 1 τ) (h0 : ¬ (∀ c, c < n → q_i τ 70 (5 * a + c) = q_i τ 70 (5 * b + c)) → post 0 τ) : T_X11_areAlike (nI a) (nI b) (nI n) τ post := by
  have loop : ∀ m c (f : Int32), c + m = n → ((f = 1 ∧ ∀ c', c' < c → q_i τ 70 (5 * a + c') = q_i τ 70 (5 * b + c')) ∨ (f = 0 ∧ ¬ ∀ c', c' < c → q_i τ 70 (5 * a + c') = q_i τ 70 (5 * b + c'))) → L_X11_areAlike_6 (nI a) (nI b) (nI n) (fun v10 v11 τ12 => ((v10 = 0 ∨ v10 = 1) ∧ post v10 τ12)) post (m + 1) f (nI c) τ := by
    intro m
    induction m with
    | zero =>
      intro c f hc hs
      have hc : c = n := by omega
      subst hc
      unfold L_X11_areAlike_6
      refine br_t (nI_le (Nat.le_refl _) (by omega)) ?_
      rcases hs with ⟨rfl, y⟩ | ⟨rfl, y⟩
      · exact ⟨Or.inr rfl, h1 y⟩
      · exact ⟨Or.inl rfl, h0 y⟩
    | succ m ih =>
      intro c f hc hs
      unfold L_X11_areAlike_6
      refine br_f (nI_ge (by omega) (by omega)) ?_
      rcases hs with ⟨rfl, y⟩ | ⟨rfl, y⟩
      · refine br_f (by decide) ⟨5 * a + c, ixl 5 a c, by omega, 5 * b + c, ixl 5 b c, by omega, fun q v7 h7 => ?_, fun q v8 h8 => ?_⟩
        · rw [h7, show nI c + 1 = nI (c + 1) from nI_1 c]
          exact ih (c + 1) 0 (by omega) (Or.inr ⟨rfl, fun w => q (w c (by omega))⟩)
        · rw [h8, show nI c + 1 = nI (c + 1) from nI_1 c]
          refine ih (c + 1) 1 (by omega) (Or.inl ⟨rfl, fun c' hc' => ?_⟩)
          by_cases e : c' = c
          · rw [e]; exact q
          · exact y c' (by omega)
      · refine br_t rfl (fun v3 h3 => ?_)
        rw [h3, show nI c + 1 = nI (c + 1) from nI_1 c]
        exact ih (c + 1) 0 (by omega) (Or.inr ⟨rfl, fun w => y (fun c' hc' => w c' (by omega))⟩)
  exact ⟨n + 1, loop n 0 1 (by omega) (Or.inl ⟨rfl, fun c' hc' => absurd hc' (by omega)⟩)⟩
theorem r_stands {τ0 τ : kT} {k d n sp lo T : Nat} {lv : Int32} {op nv : Nat → Nat → Bool} {bl : Nat → Bool} {ms cy lc : Nat → Nat} {hh : Nat → Nat → Nat} (hS : Sz k d n sp lo T lv) (h0 : R0 τ0 k d n lo T op nv bl ms cy hh) (hlc : ∀ c, c < n → lc c ≤ 9) {p tr : Nat} {g : Nat → Nat} (hp : p < T * n) (hR : RRel τ0 τ k n lo lc (p + 1) g tr) {post : Int32 → kT → Prop} (h1 : stP op ms lc (lo < k) lo n d sp g p → post 1 τ) (hf : ¬ stP op ms lc (lo < k) lo n d sp g p → post 0 τ) : T_X11_stands (nI p) lv (nI d) (nI n) (nI sp) τ post := by
  obtain ⟨z1, z2, z3, z4, z5, z6, z7, z8, z9, -⟩ := id hS
  obtain ⟨a1, a2, a3, -, a5, -⟩ := id h0
  have tT := dm_T z3 hp
  have cn := Nat.mod_lt p z3
  have ep := dm_e n p
  have p6 : p / n < 6 := Nat.lt_of_lt_of_le tT z6
  have k6 : ∀ t, t < T → key lo t < 6 := fun t ht => Nat.lt_of_lt_of_le (z7 t ht) z1
  have kk := k6 _ tT
  have e72 : ∀ t, t < T → q_i τ 72 t = nI (key lo t) := fun t ht => by rw [hR.1.1 72 (by decide) (by decide) (by decide) (by decide)]; exact a2 t ht
  have p30 : p < 30 := by
    have : T * n ≤ 6 * 5 := Nat.mul_le_mul z6 z4
    omega
  have nz : ¬ nI n = 0 := fun y => absurd ((nI_eq (b := 0) (by omega) (by decide)).mp y) (by omega)
  have gp := hR.2.1 p (by omega)
  have cut : ∀ t c, t ≤ p / n → c < n → (t = p / n → c ≤ p % n) → q_i τ 70 (5 * key lo t + c) = nI (g (t * n + c)) ∧ g (t * n + c) ≤ 9 := fun t c ht hc hl => by
    rw [← ix_of hc]
    refine hR.2.1 _ ?_
    by_cases e : t = p / n
    · have := hl e
      rw [e]; omega
    · exact Nat.lt_succ_of_lt (dm_le hc (Nat.lt_of_le_of_ne ht e))
  -- the doors, then the keys ahead, then the lost one
  have keys : (∀ j, j < d → op (key lo (p / n)) j = true → popc 31 (mk op lo n g j (p % n) (p / n + 1)) ≤ ms j) → (0 < p % n → near sp (g p) (g (p - 1))) → ∃ m35 : Nat, L_X11_stands_150 (nI p) lv (nI d) (nI n) (nI sp) (nI (p / n)) (nI (key lo (p / n))) (nI (p % n)) (nI (g p)) (fun v36 v37 τ38 => ((v36 = 0 → post (0 : Int32) τ38) ∧ (¬ v36 = 0 → ((nI (p % n) < (nI n - (1 : Int32)) → post (1 : Int32) τ38) ∧ (¬ nI (p % n) < (nI n - (1 : Int32)) → ((lv = (-1 : Int32) → post (1 : Int32) τ38) ∧ (¬ lv = (-1 : Int32) → (T_X11_areAlike (nI (key lo (p / n))) lv (nI n) τ38 (fun r42 τ43 => ((¬ r42 = 0 → post (0 : Int32) τ43) ∧ (r42 = 0 → post (1 : Int32) τ43))))))))))) post m35 (1 : Int32) (0 : Int32) τ := by
    intro hd hst
    have en : nI n - 1 = nI (n - 1) := by rw [i_eq, i_m1 (by omega), nI_toInt (by omega)]; omega
    rw [en]
    by_cases e : p % n + 1 = n
    · have sm : ∀ t, t < p / n → ((∀ c, c < n → q_i τ 70 (5 * key lo (p / n) + c) = q_i τ 70 (5 * key lo t + c)) ↔ same g n t (p / n)) := by
        intro t ht
        refine ⟨fun y c hc => ?_, fun y c hc => ?_⟩
        · have c1 := cut t c (Nat.le_of_lt ht) hc (fun w => absurd w (Nat.ne_of_lt ht))
          have c2 := cut (p / n) c (Nat.le_refl _) hc (fun _ => by omega)
          have := y c hc
          rw [c1.1, c2.1] at this
          exact ((nI_eq (by omega) (by omega)).mp this).symm
        · rw [(cut t c (Nat.le_of_lt ht) hc (fun w => absurd w (Nat.ne_of_lt ht))).1, (cut (p / n) c (Nat.le_refl _) hc (fun _ => by omega)).1, y c hc]
      refine ⟨p / n + 1, ?_⟩
      have loop : ∀ m t (f : Int32), t + m = p / n → ((f = 1 ∧ ∀ t', t' < t → ¬ same g n t' (p / n)) ∨ (f = 0 ∧ ¬ ∀ t', t' < t → ¬ same g n t' (p / n))) → L_X11_stands_150 (nI p) lv (nI d) (nI n) (nI sp) (nI (p / n)) (nI (key lo (p / n))) (nI (p % n)) (nI (g p)) (fun v36 v37 τ38 => ((v36 = 0 → post (0 : Int32) τ38) ∧ (¬ v36 = 0 → ((nI (p % n) < nI (n - 1) → post (1 : Int32) τ38) ∧ (¬ nI (p % n) < nI (n - 1) → ((lv = (-1 : Int32) → post (1 : Int32) τ38) ∧ (¬ lv = (-1 : Int32) → (T_X11_areAlike (nI (key lo (p / n))) lv (nI n) τ38 (fun r42 τ43 => ((¬ r42 = 0 → post (0 : Int32) τ43) ∧ (r42 = 0 → post (1 : Int32) τ43))))))))))) post (m + 1) f (nI t) τ := by
        intro m
        induction m with
        | zero =>
          intro t f ht hs
          have ht : t = p / n := by rw [← ht]; rfl
          subst ht
          unfold L_X11_stands_150
          refine br_t (nI_le (Nat.le_refl _) (Nat.lt_trans p6 (by decide))) ?_
          rcases hs with ⟨rfl, y⟩ | ⟨rfl, y⟩
          · refine br_f (by decide) (br_f (nI_nlt (by omega) (by omega)) ?_)
            by_cases q : lo < k
            · rw [z8 q]
              have lo6 : lo < 6 := by omega
              refine br_f (nI_m1 (by omega)) (r_alike z4 kk lo6 (fun w => bn_t (by decide) (hf (fun s => (s.2.2 e).2 q (fun c hc => ?_)))) (fun w => bn_f rfl (h1 ⟨hst, hd, fun _ => ⟨y, fun _ s => w (fun c hc => ?_)⟩⟩)))
              · have := w c hc
                have c2 := cut (p / n) c (Nat.le_refl _) hc (fun _ => by omega)
                rw [hR.2.2 q c hc, c2.1] at this
                have l9 := hlc c hc
                exact ((nI_eq (by omega) (by omega)).mp this).symm
              · rw [hR.2.2 q c hc, (cut (p / n) c (Nat.le_refl _) hc (fun _ => by omega)).1, s c hc]
            · rw [z9 q]
              exact br_t rfl (h1 ⟨hst, hd, fun _ => ⟨y, fun w => absurd w q⟩⟩)
          · exact br_t rfl (hf (fun s => y (s.2.2 e).1))
        | succ m ih =>
          intro t f ht hs
          have ht2 : t < p / n := by rw [← ht]; exact Nat.lt_add_of_pos_right (Nat.succ_pos m)
          have t6 : t < 6 := Nat.lt_trans ht2 p6
          have htT := Nat.lt_trans ht2 tT
          unfold L_X11_stands_150
          rw [en]
          refine br_f (nI_ge ht2 (Nat.lt_trans p6 (by decide))) (bn_f (by rw [show p % n = n - 1 by omega]) ?_)
          rcases hs with ⟨rfl, y⟩ | ⟨rfl, y⟩
          · refine br_f (by decide) ⟨t, rfl, t6, ?_⟩
            rw [e72 t htT]
            refine r_alike z4 kk (k6 t htT) (fun w => bn_t (by decide) (fun v33 h33 => ?_)) (fun w => bn_f rfl (fun v34 h34 => ?_))
            · rw [h33, show nI t + 1 = nI (t + 1) from nI_1 t]
              exact ih (t + 1) 0 (by rw [← ht]; omega) (Or.inr ⟨rfl, fun s => s t (by omega) ((sm t ht2).mp w)⟩)
            · rw [h34, show nI t + 1 = nI (t + 1) from nI_1 t]
              refine ih (t + 1) 1 (by rw [← ht]; omega) (Or.inl ⟨rfl, fun t' ht' => ?_⟩)
              by_cases e2 : t' = t
              · rw [e2]; exact fun s => w ((sm t ht2).mpr s)
              · exact y t' (by omega)
          · refine br_t rfl (fun v28 h28 => ?_)
            rw [h28, show nI t + 1 = nI (t + 1) from nI_1 t]
            exact ih (t + 1) 0 (by rw [← ht]; omega) (Or.inr ⟨rfl, fun s => y (fun t' ht' => s t' (by omega))⟩)
      exact loop (p / n) 0 1 (Nat.zero_add _) (Or.inl ⟨rfl, fun t' ht' => absurd ht' (by omega)⟩)
    · refine ⟨1, ?_⟩
      have good : post 1 τ := h1 ⟨hst, hd, fun y => absurd y e⟩
      have lt1 : nI (p % n) < nI (n - 1) := nI_lt (by omega) (by omega)
      have ne1 : ¬ nI (p % n) = nI n - 1 := by
        rw [en]
        exact fun y => absurd ((nI_eq (by omega) (by omega)).mp y) (by omega)
      unfold L_X11_stands_150
      exact ⟨fun _ => br_f (by decide) (br_t lt1 good), fun _ => bn_t ne1 (br_f (by decide) (br_t lt1 good))⟩
  have doors : (0 < p % n → near sp (g p) (g (p - 1))) → ∃ m22 : Nat, L_X11_stands_76 (nI p) lv (nI d) (nI n) (nI sp) (nI (p / n)) (nI (key lo (p / n))) (nI (p % n)) (nI (g p)) (fun v23 τ24 => (∃ m35 : Nat, L_X11_stands_150 (nI p) lv (nI d) (nI n) (nI sp) (nI (p / n)) (nI (key lo (p / n))) (nI (p % n)) (nI (g p)) (fun v36 v37 τ38 => ((v36 = 0 → post (0 : Int32) τ38) ∧ (¬ v36 = 0 → ((nI (p % n) < (nI n - (1 : Int32)) → post (1 : Int32) τ38) ∧ (¬ nI (p % n) < (nI n - (1 : Int32)) → ((lv = (-1 : Int32) → post (1 : Int32) τ38) ∧ (¬ lv = (-1 : Int32) → (T_X11_areAlike (nI (key lo (p / n))) lv (nI n) τ38 (fun r42 τ43 => ((¬ r42 = 0 → post (0 : Int32) τ43) ∧ (r42 = 0 → post (1 : Int32) τ43))))))))))) post m35 (1 : Int32) (0 : Int32) τ24)) post m22 (0 : Int32) τ := by
    intro hst
    have loop : ∀ m j, j + m = d → (∀ j', j' < j → op (key lo (p / n)) j' = true → popc 31 (mk op lo n g j' (p % n) (p / n + 1)) ≤ ms j') → L_X11_stands_76 (nI p) lv (nI d) (nI n) (nI sp) (nI (p / n)) (nI (key lo (p / n))) (nI (p % n)) (nI (g p)) (fun v23 τ24 => (∃ m35 : Nat, L_X11_stands_150 (nI p) lv (nI d) (nI n) (nI sp) (nI (p / n)) (nI (key lo (p / n))) (nI (p % n)) (nI (g p)) (fun v36 v37 τ38 => ((v36 = 0 → post (0 : Int32) τ38) ∧ (¬ v36 = 0 → ((nI (p % n) < (nI n - (1 : Int32)) → post (1 : Int32) τ38) ∧ (¬ nI (p % n) < (nI n - (1 : Int32)) → ((lv = (-1 : Int32) → post (1 : Int32) τ38) ∧ (¬ lv = (-1 : Int32) → (T_X11_areAlike (nI (key lo (p / n))) lv (nI n) τ38 (fun r42 τ43 => ((¬ r42 = 0 → post (0 : Int32) τ43) ∧ (r42 = 0 → post (1 : Int32) τ43))))))))))) post m35 (1 : Int32) (0 : Int32) τ24)) post (m + 1) (nI j) τ := by
      intro m
      induction m with
      | zero =>
        intro j hj hs
        have hj : j = d := by omega
        subst hj
        unfold L_X11_stands_76
        exact br_t (nI_le (Nat.le_refl _) (by omega)) (keys hs hst)
      | succ m ih =>
        intro j hj hs
        have hjd : j < d := by omega
        have nx : (op (key lo (p / n)) j = true → popc 31 (mk op lo n g j (p % n) (p / n + 1)) ≤ ms j) → _ := fun q => ih (j + 1) (by omega) (fun j' hj' => by
          by_cases e : j' = j
          · rw [e]; exact q
          · exact hs j' (by omega))
        have s3 := a3 _ tT j hjd
        obtain ⟨y1, y2, kd, y3, y4, y5, y6⟩ := a5 j hjd
        unfold L_X11_stands_76
        refine br_f (nI_ge (by omega) (by omega)) ⟨6 * key lo (p / n) + j, ixl 6 (key lo (p / n)) j, by omega, ?_⟩
        rw [hR.1.1 73 (by decide) (by decide) (by decide) (by decide)]
        by_cases q : op (key lo (p / n)) j = true
        · refine bn_f (s3.mpr q) ?_
          have pos : ∀ t, t < p / n + 1 → t * n + p % n < p + 1 := fun t ht => by
            by_cases e : t = p / n
            · rw [e, ← ep]; exact Nat.lt_succ_self _
            · exact Nat.lt_succ_of_lt (dm_le cn (Nat.lt_of_le_of_ne (Nat.le_of_lt_succ ht) e))
          have m10 : mk op lo n g j (p % n) (p / n + 1) < 1024 := mk_lt _ (fun t ht => (hR.2.1 _ (pos t ht)).2)
          refine r_cutsAt h0 k6 z2 z6 z4 hR hjd cn tT (fun t ht => ?_) pos ?_
          · rw [nI_ltI (Nat.lt_trans p6 (by decide)) (by omega)]
            exact Nat.lt_iff_add_one_le
          · refine s_bits (Nat.lt_trans m10 (by decide)) ⟨4464 + j, nI_add 4464 j, by omega, cy j, ?_, by omega, ?_⟩
            · rw [hR.1.1 67 (by decide) (by decide) (by decide) (by decide), y2]; exact ev_0a _
            · rw [hR.1.1 67 (by decide) (by decide) (by decide) (by decide), y4]
              refine s_most (by omega) ?_
              have pl : popc 31 (mk op lo n g j (p % n) (p / n + 1)) ≤ 14 := popc_le14 (by omega)
              have ml : mostK kd ≤ 4 := by unfold mostK; split; decide; split <;> decide
              refine ⟨fun q2 v21 h21 => ?_, fun q2 => hf (fun s => q2 (nI_le (by rw [← y5]; exact s.2.1 j hjd q) (by omega)))⟩
              rw [h21, show nI j + 1 = nI (j + 1) from nI_1 j]
              exact nx (fun _ => by rw [y5]; exact (nI_leI (by omega) (by omega)).mp q2)
        · refine bn_t (fun y => q (s3.mp y)) (fun v11 h11 => ?_)
          rw [h11, show nI j + 1 = nI (j + 1) from nI_1 j]
          exact nx (fun y => absurd y q)
    exact ⟨d + 1, loop d 0 (by omega) (fun j' hj' => absurd hj' (by omega))⟩
  unfold T_X11_stands
  refine ⟨nz, fun v1 e1 => ?_⟩
  rw [nI_div z3 (by omega) (by omega)] at e1
  subst e1
  refine ⟨p / n, rfl, p6, fun v3 e3 => ⟨nz, fun v4 e4 => ?_⟩⟩
  rw [e72 _ tT] at e3
  rw [nI_mod z3 (by omega) (by omega)] at e4
  subst e3 e4
  have eix : 5 * key lo (p / n) + p % n = ix n lo p := rfl
  have ix30 : ix n lo p < 30 := by
    rw [← eix]
    generalize key lo (p / n) = y at kk ⊢
    omega
  refine ⟨ix n lo p, by rw [← eix]; exact ixl 5 (key lo (p / n)) (p % n), ix30, fun v6 e6 => ?_⟩
  rw [gp.1] at e6
  subst e6
  by_cases c0 : p % n = 0
  · exact br_t (by rw [c0]; decide) (doors (fun y => absurd c0 (by omega)))
  · have cpos : 0 < p % n := Nat.pos_of_ne_zero c0
    refine br_f (by show ¬ nI (p % n) ≤ nI 0; exact nI_ge cpos (by omega)) ?_
    have p1 : 0 < p := by
      rcases Nat.eq_zero_or_pos p with y | y
      · rw [y, Nat.zero_mod] at cpos; exact absurd cpos (by decide)
      · exact y
    have e1 : ix n lo (p - 1) = ix n lo p - 1 := by
      have hs : (p - 1) / n = p / n ∧ (p - 1) % n = p % n - 1 := by
        have e : p - 1 = p / n * n + (p % n - 1) := by omega
        rw [e]
        exact dm_of (by omega)
      unfold ix
      rw [hs.1, hs.2]
      omega
    have ip : 0 < ix n lo p := by rw [← eix]; omega
    have gq := hR.2.1 (p - 1) (by omega)
    rw [e1] at gq
    refine ⟨ix n lo p - 1, ?_, by omega, ?_⟩
    · rw [show (5 : Int32) * nI (key lo (p / n)) + nI (p % n) = nI (ix n lo p) from ixl 5 (key lo (p / n)) (p % n), i_eq, i_m1 (by omega), nI_toInt (by omega)]; omega
    · rw [gq.1]
      have t1 : (nI (g p) - nI (g (p - 1))).toInt64.toInt = (g p : Int) - (g (p - 1) : Nat) := by rw [i_64, pk_sub_toInt (by omega) (by omega)]
      have t2 : (-nI sp).toInt64.toInt = -(sp : Int) := by rw [i_64]; exact neg_ok sp z5
      have t3 : (nI sp).toInt64.toInt = (sp : Int) := by rw [i_64, nI_toInt (by omega)]
      by_cases q : near sp (g p) (g (p - 1))
      · refine s_in_t (by rw [t1, t2, t3]; have := q.1; have := q.2; omega) (bn_t (by decide) (doors (fun _ => q)))
      · refine s_in_f (by rw [t1, t2, t3]; exact fun y => q ⟨by omega, by omega⟩) (bn_f rfl (hf (fun s => q (s.1 cpos))))
