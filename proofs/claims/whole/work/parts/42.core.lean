theorem sl_x_lt (e : sl) : sl_x e < 19 := by
  obtain ⟨t, c, j⟩ := e
  match t with
  | 0 =>
    show [0, 0, 0, 1, 1, 8, 14].getD c 18 < 19
    match c with
    | 0 | 1 | 2 | 3 | 4 | 5 | 6 => decide
    | c + 7 => exact Nat.le_of_ble_eq_true rfl
  | 1 | 2 | 3 | 4 | 5 | 6 | 7 | 8 | 9 | 10 | 11 | 12 => exact Nat.le_of_ble_eq_true rfl
  | t + 13 => show 18 < 19; decide
theorem Corr.congr {τ τ2 : kT} {b : Nat} {s : Nat → Int32} (h : Corr τ b s) (hi : ∀ x, x < 19 → q_i τ2 (b + x) = q_i τ (b + x)) (hl : q_l τ2 (b + 12) = q_l τ (b + 12) ∧ q_l τ2 (b + 13) = q_l τ (b + 13)) : Corr τ2 b s := by
  refine ⟨fun e he => ?_, fun k d hk hd => ?_⟩
  · rw [hi _ (sl_x_lt e)]
    exact h.1 e he
  · rw [hl.1, hl.2]
    exact h.2 k d hk hd
/-- the cells of a state that J looks at, but FINDING and FINDINGS -/
def sameB (τ τ2 : kT) : Prop := (∀ x, 1 ≤ x → x < 39 → q_i τ2 x = q_i τ x) ∧ (∀ x, 1 ≤ x → x < 39 → q_l τ2 x = q_l τ x) ∧ q_i τ2 67 = q_i τ 67 ∧ q_i τ2 68 = q_i τ 68
theorem J.keep {τ τ2 : kT} (h : J τ) (hb : sameB τ τ2) (h1 : q_i τ2 0 2 = q_i τ 0 2 ∧ q_i τ2 66 2 = q_i τ 66 2) (h2 : q_i τ2 66 3 = q_i τ2 0 3 ∧ q_i τ2 66 4 = q_i τ2 0 4 ∧ q_i τ2 66 5 = q_i τ2 0 5) (h3 : q_i τ2 66 6 = q_i τ2 39 1) (h4 : q_i τ2 66 10 = q_i τ2 45 0)
    (h5 : q_i τ2 66 9 = q_i τ2 40 1 ∧ q_i τ2 40 1 = nI (N (q_i τ2 40) 1) ∧ N (q_i τ2 40) 1 ≤ 1000 ∧ ∀ i, i < 40 → i < N (q_i τ2 40) 1 → q_i τ2 69 i = q_i τ2 41 i) (h6 : q_i τ2 65 0 = q_i τ 65 0 := by rfl) : J τ2 := by
  obtain ⟨a1, a2, a3, a4, a5, -, -, -, -, a10⟩ := h
  obtain ⟨b1, b2, b3, b4⟩ := hb
  refine ⟨by rw [b3]; exact a1, by rw [b3]; exact a2.congr (fun x hx => b1 _ (by omega) (by omega)) ⟨b2 _ (by decide) (by decide), b2 _ (by decide) (by decide)⟩, by rw [h1.1]; exact a3, by rw [h1.1, h1.2]; exact a4, ?_, h2, h3, h4, h5, by rw [b3, b4, h6]; exact a10⟩
  rw [h1.1, b4]
  intro q
  obtain ⟨c1, c2⟩ := a5 q
  exact ⟨c1, c2.congr (fun x hx => b1 _ (by omega) (by omega)) ⟨b2 _ (by decide) (by decide), b2 _ (by decide) (by decide)⟩⟩
theorem e_met {τ : kT} (h : J τ) (f : Int32) : J (q_si (q_si (q_si (q_si τ 0 4 f) 0 5 (q_i τ 0 5 + 1)) 66 4 f) 66 5 (q_i τ 66 5 + 1)) := by
  obtain ⟨-, -, -, -, -, ⟨s3, s4, s5⟩, a6, a7, a8, -⟩ := id h
  refine h.keep ⟨fun x h1 h2 => ?_, fun x _ _ => rfl, rfl, rfl⟩ ⟨rfl, rfl⟩ ⟨s3, rfl, ?_⟩ a6 a7 a8
  · simp only [q_i_si, show x ≠ 0 by omega, show x ≠ 66 by omega, if_false]
  · show q_i τ 66 5 + 1 = q_i τ 0 5 + 1
    rw [s5]
theorem e_well {τ : kT} (h : J τ) : J (q_si (q_si τ 0 4 0) 66 4 0) := by
  obtain ⟨-, -, -, -, -, ⟨s3, s4, s5⟩, a6, a7, a8, -⟩ := id h
  refine h.keep ⟨fun x h1 h2 => ?_, fun x _ _ => rfl, rfl, rfl⟩ ⟨rfl, rfl⟩ ⟨s3, rfl, s5⟩ a6 a7 a8
  simp only [q_i_si, show x ≠ 0 by omega, show x ≠ 66 by omega, if_false]
/-! settle, met, well -/
theorem s_settle_ok {τ : kT} {r : Int32} {post : Int32 → kT → Prop} (hr : -11 < r.toInt ∧ r.toInt ≠ -2 ∧ r.toInt ≠ -3 ∧ r.toInt ≠ -4) (h : post r (q_si τ 0 4 0)) : T_X10_settle r τ post := by
  unfold T_X10_settle
  have t2 : (-2 : Int32).toInt = -2 := by decide
  have t3 : (-3 : Int32).toInt = -3 := by decide
  have t4 : (-4 : Int32).toInt = -4 := by decide
  have t11 : (-11 : Int32).toInt = -11 := by decide
  refine ⟨fun _ => ⟨fun q => absurd (by rw [q]; exact t2) hr.2.1, fun _ => ⟨fun q => absurd (by rw [q]; exact t3) hr.2.2.1, fun _ => ⟨fun q => absurd (by rw [q]; exact t4) hr.2.2.2, fun _ τ2 e2 => by rw [e2]; exact h⟩⟩⟩, fun q => absurd (i_lt.mpr (by rw [t11]; exact hr.1)) q⟩
theorem s_settle_n {τ : kT} {n : Nat} {post : Int32 → kT → Prop} (hn : n < 2 ^ 31) (h : post (nI n) (q_si τ 0 4 0)) : T_X10_settle (nI n) τ post := s_settle_ok (by rw [nI_toInt hn]; omega) h
theorem s_settle_bad {τ : kT} {r : Int32} {post : Int32 → kT → Prop} (hr : r = -2 ∨ r = -3 ∨ r = -4) (h : post r τ) : T_X10_settle r τ post := by
  unfold T_X10_settle
  rcases hr with rfl | rfl | rfl
  · exact ⟨fun _ => ⟨fun _ => h, fun q => absurd rfl q⟩, fun q => absurd (by decide) q⟩
  · exact ⟨fun _ => ⟨fun q => absurd q (by decide), fun _ => ⟨fun _ => h, fun q => absurd rfl q⟩⟩, fun q => absurd (by decide) q⟩
  · exact ⟨fun _ => ⟨fun q => absurd q (by decide), fun _ => ⟨fun q => absurd q (by decide), fun _ => ⟨fun _ => h, fun q => absurd rfl q⟩⟩⟩, fun q => absurd (by decide) q⟩
theorem s_settle_met {τ : kT} {r f : Int32} {post : Int32 → kT → Prop} (hr : r = -10 - f ∧ (f = 1 ∨ f = 2 ∨ f = 3 ∨ f = 4 ∨ f = 5)) (h : post r (q_si (q_si τ 0 4 f) 0 5 (q_i τ 0 5 + 1))) : T_X10_settle r τ post := by
  unfold T_X10_settle
  obtain ⟨rfl, hf⟩ := hr
  have e : (-10 : Int32) - (-10 - f) = f := by rcases hf with rfl | rfl | rfl | rfl | rfl <;> decide
  refine ⟨fun q => absurd q (by rcases hf with rfl | rfl | rfl | rfl | rfl <;> decide), fun _ => ⟨fun q => absurd q (by rcases hf with rfl | rfl | rfl | rfl | rfl <;> decide), fun _ τ1 e1 τ2 e2 => ?_⟩⟩
  rw [e2, e1, e]
  exact h
theorem s_met {τ : kT} {f : Int32} {post : Int32 → kT → Prop} (h : post (-10 - f) (q_si (q_si τ 66 4 f) 66 5 (q_i τ 66 5 + 1))) : T_X11_met f τ post := by
  intro τ1 e1 τ2 e2
  rw [e2, e1]
  exact h
theorem s_well {τ : kT} {v : Int32} {post : Int32 → kT → Prop} (h : post v (q_si τ 66 4 0)) : T_X11_well v τ post := by
  intro τ1 e1
  rw [e1]
  exact h
/-! change: the reference keeps a copy -/
theorem s_change {τ : kT} {post : kT → Prop} (hz : ∀ k, 8530 ≤ k → q_i τ 67 k = 0 ∧ q_i τ 68 k = 0) (h : post (q_si (q_wi τ 68 (q_i τ 67)) 66 2 1)) : T_X11_change τ post := by
  have key : ∀ (m j : Nat) (f : Nat → Int32), j + m = 8530 → (∀ k, k < j → f k = q_i τ 67 k) → (∀ k, 8530 ≤ k → f k = q_i τ 68 k) → L_X11_change_2 (fun v7 τ8 => (∀ τ9 : kT, τ9 = q_si τ8 66 2 (1 : Int32) → post τ9)) post (m + 1) (nI j) (q_wi τ 68 f) := by
    intro m
    induction m with
    | zero =>
      intro j f hj h1 h2
      have hj : j = 8530 := by omega
      subst hj
      unfold L_X11_change_2
      refine br_t (by decide) (fun τ9 e9 => ?_)
      have ef : f = q_i τ 67 := by
        funext k
        by_cases hk : k < 8530
        · exact h1 k hk
        · rw [h2 k (by omega), (hz k (by omega)).1, (hz k (by omega)).2]
      rw [e9, ef]
      exact h
    | succ m ih =>
      intro j f hj h1 h2
      unfold L_X11_change_2
      refine br_f (by rw [show (8530 : Int32) = nI 8530 from rfl]; exact nI_ge (by omega) (by omega)) ⟨j, rfl, by omega, j, rfl, by omega, fun τ4 e4 v5 e5 => ?_⟩
      have e6 : τ4 = q_wi τ 68 (upd f j (q_i τ 67 j)) := by
        rw [e4]
        show ((va_up (va_up τ.1 68 f) 68 (upd (va_up τ.1 68 f 68) j (τ.1 67 j)), τ.2) : kT) = (va_up τ.1 68 (upd f j (τ.1 67 j)), τ.2)
        refine congrArg (fun g => ((g, τ.2) : kT)) ?_
        funext x
        by_cases hx : x = 68 <;> simp [va_up, hx]
      rw [e6, e5, show nI j + 1 = nI (j + 1) from nI_1 j]
      refine ih (j + 1) _ (by omega) (fun k hk => ?_) (fun k hk => ?_)
      · rw [upd_at]
        by_cases e : k = j
        · rw [if_pos e, e]
        · rw [if_neg e]; exact h1 k (by omega)
      · rw [upd_at, if_neg (by omega)]
        exact h2 k hk
  refine ⟨8531, ?_⟩
  have := key 8530 0 (q_i τ 68) (by omega) (fun k hk => by omega) (fun k hk => rfl)
  have e : q_wi τ 68 (q_i τ 68) = τ := by
    show ((va_up τ.1 68 (τ.1 68), τ.2) : kT) = τ
    obtain ⟨a, b⟩ := τ
    refine congrArg (fun g => ((g, b) : kT)) ?_
    funext x
    by_cases hx : x = 68 <;> simp [va_up, hx]
  rw [e] at this
  exact this
