theorem s_inL_t {τ : kT} {c n : Nat} {L : Int64} {post : Int32 → kT → Prop} (hL : L.toInt = (n : Int) - 1) (hn : n < 2 ^ 30) (hc : c < n) (h : post 1 τ) : T_X11_in ((nI c).toInt64) (0 : Int64) L τ post := by
  refine s_in_t ?_ h
  rw [i_64, hL, nI_toInt (by omega)]
  show (0 : Int) ≤ _ ∧ _
  omega
theorem s_inL_f {τ : kT} {a : Int32} {n : Nat} {L : Int64} {post : Int32 → kT → Prop} (hL : L.toInt = (n : Int) - 1) (hn : n < 2 ^ 30) (hc : ¬ inn a n) (h : post 0 τ) : T_X11_in (a.toInt64) (0 : Int64) L τ post := by
  refine s_in_f ?_ h
  rw [inn_iff (by omega)] at hc
  rw [i_64, hL]
  show ¬ ((0 : Int) ≤ _ ∧ _)
  omega
theorem mostK_le (k : Nat) : mostK k ≤ 4 := by
  unfold mostK
  split
  · omega
  · split <;> omega
theorem c_height_do {τ τr : kT} (hrm : remP τ τr) {c i r n m : Nat} (e1 : q_i τ 2 5 = nI n) (hn : n ≤ 100) (hc : c < n) (hr : q_i τ 4 c = nI r) (hr2 : r ≤ 18) (hi : i < r) (hm : m < 1024) {post : Int32 → kT → Prop} (h : post (nI (popc 31 m)) (q_si τr 5 (c * 18 + i) (nI m))) : T_X4_setHeights (nI c) (nI i) (nI m) τr (fun τ19 => T_J6_bitCount_0f7a4 (nI m) τ19 (fun r τ2 => post r τ2)) := by
  have g : ∀ x, x < 19 → q_i τr (1 + x) = q_i τ (1 + x) := hrm.now.1
  refine s_setHeights (n := n) (r := r) (by rw [g 1 (by decide)]; exact e1) hn hc (by rw [g 3 (by decide)]; exact hr) hr2 hi (s_bitCount (by omega) h)
theorem r_height {τ : kT} {c i r h m m2 k nc : Nat} {b : Int32} {post : Int32 → kT → Prop} (c2 : q_i τ 67 8522 = nI nc) (hnc : nc ≤ 100) (hc : c < nc) (hk : q_i τ 67 c = nI k) (hk4 : k < 4) (hr : q_i τ 67 (100 + c) = nI r) (hr2 : r ≤ 18) (hi : i < r) (hh : h < 10) (hm : q_i τ 67 (400 + 18 * c + i) = nI m) (hm2 : m < 1024) (hz : ∀ k, 8530 ≤ k → q_i τ 67 k = 0 ∧ q_i τ 68 k = 0)
    (hb0 : b = 0 → m2 = clr m h) (hb1 : b ≠ 0 → m2 = m ||| 2 ^ h) (hm2 : m2 < 1024)
    (h1 : popc 31 m2 ≤ mostK k → post (nI (popc 31 m2)) (q_si (q_si (q_si (q_wi τ 68 (q_i τ 67)) 66 2 1) 67 (400 + 18 * c + i) (nI m2)) 66 4 0)) (h2 : ¬ popc 31 m2 ≤ mostK k → post (-4) τ) : T_X11_height (nI c) (nI i) (nI h) b τ post := by
  have k4 : q_i τ 67 c ≠ 4 := by rw [hk]; exact fun q => absurd ((nI_eq (b := 4) (by omega) (by decide)).mp q) (by omega)
  have pb : ∀ m : Nat, popc 31 m ≤ 31 := fun m => by
    have key : ∀ k, popc k m ≤ k := fun k => by
      induction k with
      | zero => exact Nat.le_refl _
      | succ k ih => rw [popc_tb]; cases m.testBit k <;> simp <;> omega
    exact key 31
  have mb : mostK k < 100 := by have := mostK_le k; omega
  unfold T_X11_height
  refine s_X11_isCylinder_t c2 (by omega) hc (br_f (by decide) (s_inL_t (n := 10) (by decide) (by omega) hh (bn_t (by decide) ?_)))
  refine r_wrong0 (by omega) k4 hr hr2 hi (br_t (by decide) (fun v10 h10 => ?_))
  have e10 : v10 = nI (400 + 18 * c + i) := by rw [h10]; exact ev_3 400 18 c i
  refine ⟨fun q => ⟨400 + 18 * c + i, e10, by omega, fun v13 h13 => ?_⟩, fun q => ⟨400 + 18 * c + i, e10, by omega, fun v13 h13 => ?_⟩⟩
  · have e13 : v13 = nI m2 := by rw [h13, hm, b_clr (by omega) (by omega), hb0 q]
    rw [e13]
    refine s_bits (by omega) ⟨c, ev_0a c, by omega, ?_⟩
    rw [hk]
    refine s_most (by omega) ⟨fun z => s_change hz ⟨400 + 18 * c + i, e10, by omega, fun τ23 h23 => ?_⟩, fun z => h2 (fun y => z ((nI_leI (by have := pb m2; omega) (by omega)).mpr y))⟩
    refine s_bits (by omega) (s_well ?_)
    rw [h23]
    exact h1 ((nI_leI (by have := pb m2; omega) (by omega)).mp z)
  · have e13 : v13 = nI m2 := by rw [h13, hm, b_sh1 h (by omega), b_or, hb1 q]
    rw [e13]
    refine s_bits (by omega) ⟨c, ev_0a c, by omega, ?_⟩
    rw [hk]
    refine s_most (by omega) ⟨fun z => s_change hz ⟨400 + 18 * c + i, e10, by omega, fun τ23 h23 => ?_⟩, fun z => h2 (fun y => z ((nI_leI (by have := pb m2; omega) (by omega)).mpr y))⟩
    refine s_bits (by omega) (s_well ?_)
    rw [h23]
    exact h1 ((nI_leI (by have := pb m2; omega) (by omega)).mp z)
theorem k_height_op : K_height J := by
  intro a p hh b τ hJ
  obtain ⟨n, hn, e1, e2, e3⟩ := hJ.nc
  unfold T_X10_height T_X10_changeHeight
  by_cases h : inn a n
  case neg =>
    refine s_X4_has_f e1 (by omega) h (br_t rfl (s_settle_bad (Or.inl rfl) ?_))
    unfold T_X11_height
    exact s_X11_isCylinder_f e2 (by omega) h (br_t rfl ⟨rfl, hJ⟩)
  obtain ⟨c, hc, rfl⟩ := h
  have hcN : c < N (q_i τ 67) 8522 := by rw [e3]; exact hc
  obtain ⟨k, hk, k1, k2, k3⟩ := hJ.kd hcN
  refine s_X4_has_t e1 (by omega) hc (br_f (by decide) ?_)
  by_cases h9 : inn hh 10
  case neg =>
    have hbad : T_X10_settle (-2) τ (fun r3 τ4 => T_X11_height (nI c) p hh b τ4 (fun r2 τ2 => r3 = r2 ∧ J τ2)) := by
      refine s_settle_bad (Or.inl rfl) ?_
      unfold T_X11_height
      exact s_X11_isCylinder_t e2 (by omega) hc (br_f (by decide) (s_inL_f (n := 10) (by decide) (by omega) h9 (bn_f rfl ⟨rfl, hJ⟩)))
    refine ⟨fun _ => hbad, fun q => ⟨fun q2 => absurd ?_ h9, fun _ => hbad⟩⟩
    rw [inn_iff (by omega)]
    rw [i_lt] at q
    rw [i_le] at q2
    have z0 : (0 : Int32).toInt = 0 := rfl
    have z9 : (9 : Int32).toInt = 9 := rfl
    omega
  obtain ⟨h0, h9, rfl⟩ := h9
  refine br_f (nI_pos (by omega)) (br_t ((nI_leI (b := 9) (by omega) (by decide)).mpr (by omega)) ?_)
  refine s_chF hJ e1 hn hc hcN (fun q => ?_) (fun q r => ?_) (fun q r hr r2 hi => ?_) (fun q r i hr r2 r4 hi ep => ?_)
  · refine br_f (by decide) (s_settle_met (f := 3) ⟨by decide, by decide⟩ ?_)
    unfold T_X11_height
    exact s_X11_isCylinder_t e2 (by omega) hc (br_f (by decide) (s_inL_t (n := 10) (by decide) (by omega) h9 (bn_t (by decide) (r_wrong4 (by omega) q (br_f (by decide) (s_met ⟨by decide, e_met hJ 3⟩))))))
  · refine br_f (by decide) (s_settle_met (f := 1) ⟨by decide, by decide⟩ ?_)
    unfold T_X11_height
    exact s_X11_isCylinder_t e2 (by omega) hc (br_f (by decide) (s_inL_t (n := 10) (by decide) (by omega) h9 (bn_t (by decide) (r_wrong1 (by omega) q r (br_f (by decide) (s_met ⟨by decide, e_met hJ 1⟩))))))
  · refine br_f (by decide) (s_settle_met (f := 2) ⟨by decide, by decide⟩ ?_)
    unfold T_X11_height
    exact s_X11_isCylinder_t e2 (by omega) hc (br_f (by decide) (s_inL_t (n := 10) (by decide) (by omega) h9 (bn_t (by decide) (r_wrong2 (by omega) q r2 hr hi (br_f (by decide) (s_met ⟨by decide, e_met hJ 2⟩))))))
  subst ep
  have k4 : k < 4 := by
    rcases Nat.lt_or_ge k 4 with z | z
    · exact z
    · exact absurd (by rw [k2, show k = 4 by omega]; rfl) q
  obtain ⟨m, hm, m1, m2, m3⟩ := hJ.hts hcN r2 hr hi
  rw [k3] at m3
  have p31 : ∀ x, x < 1024 → popc 31 x = popc 10 x := fun x hx => popc_0 10 21 hx
  refine br_t rfl (s_heightsIn e1 hn hc r4 hr hi (fun v11 h11 => ?_))
  rw [m1]
  -- the change itself
  have fin : ∀ m' : Nat, m' < 1024 → popc 10 m' ≤ mostK k → (b = 0 → m' = clr m h0) → (b ≠ 0 → m' = m ||| 2 ^ h0) → ∀ τr, remP τ τr → T_X10_settle (nI (popc 31 m')) (q_si τr 5 (c * 18 + i) (nI m')) (fun r3 τ4 => T_X11_height (nI c) (nI i) (nI h0) b τ4 (fun r2 τ2 => r3 = r2 ∧ J τ2)) := by
    intro m' hm' hp hb0 hb1 τr hrm
    refine s_settle_n (n := popc 31 m') (by have := p31 m' hm'; have := mostK_le k; omega) ?_
    obtain ⟨τ1, h1⟩ : ∃ τ1, τ1 = q_si (q_si τr 5 (c * 18 + i) (nI m')) 0 4 0 := ⟨_, rfl⟩
    rw [← h1]
    have e67 : q_i τ1 67 = q_i τ 67 := by rw [h1, q_i_si, if_neg (by decide)]; exact hrm.st 5 _ _ (by decide)
    have hz1 : ∀ k, 8530 ≤ k → q_i τ1 67 k = 0 ∧ q_i τ1 68 k = 0 := fun k hk => by
      rw [h1]; exact hrm.hz hJ 5 (c * 18 + i) (nI m') (by decide) k hk
    refine r_height (nc := n) (k := k) (r := r) (m := m) (m2 := m') (by rw [e67]; exact e2) hn hc (by rw [e67]; exact k2) k4 (by rw [e67]; exact r2) hr hi h9 (by rw [e67]; exact m2) hm hz1 hb0 hb1 hm' (fun _ => ⟨rfl, ?_⟩) (fun z => absurd (by rw [p31 m' hm']; exact hp) z)
    have hb9 := hJ.1.bnd
    have hiN : i < N (q_i τ 67) (100 + c) := by unfold N; rw [r2, nI_clamp (by omega)]; exact hi
    exact J_one hJ hrm (5, c, i) (nI m') ⟨by omega, by omega⟩ (inv_height hJ.1 c i m' hcN hiN ⟨hm', by rw [k3]; exact hp⟩) (fun e he _ => sl_d_upd hb9 ⟨by show 400 + 18 * c + i ≠ _; omega, by show 400 + 18 * c + i ≠ _; omega, by show 400 + 18 * c + i ≠ _; omega, by show 400 + 18 * c + i ≠ _; omega, by show 400 + 18 * c + i ≠ _; omega⟩ (fun c2 hc2 => ⟨by show 400 + 18 * c + i ≠ _; omega, by show 400 + 18 * c + i ≠ _; omega⟩) (fun c2 hc2 => by show 400 + 18 * c + i ≠ _; omega) e he) (N_upd (by show 8523 ≠ 400 + 18 * c + i; omega)) true h1 rfl
  have ecl : nI m &&& (v11 ^^^ (-1 : Int32)) = nI (clr m h0) := by rw [h11]; exact b_clr (by omega) (by omega)
  have eor : nI m ||| v11 = nI (m ||| 2 ^ h0) := by rw [h11, b_sh1 h0 (by omega), b_or]
  have lcl : clr m h0 < 1024 := clr_lt (k := 10) hm
  have lor' : m ||| 2 ^ h0 < 1024 := set_lt (k := 10) hm h9
  refine ⟨fun hb => br_t rfl ?_, fun hb => ⟨fun hbit => br_t rfl ?_, fun hbit => br_f (by decide) ?_⟩⟩
  · refine s_remember hJ (fun τr hrm => br_t hb (fun v17 h17 => ?_))
    rw [h17, ecl]
    exact c_height_do hrm e1 hn hc r4 hr hi lcl (fin _ lcl (Nat.le_trans (popc_clr_le m h0 10) m3) (fun _ => rfl) (fun z => absurd hb z) τr hrm)
  · have hset : m ||| 2 ^ h0 = m := popc_set' (by
      rcases Bool.eq_false_or_eq_true (m.testBit h0) with z | z
      · exact z
      · exact absurd (by rw [h11]; exact (b_tst (by omega) (by omega)).mpr z) hbit)
    refine s_remember hJ (fun τr hrm => br_f hb (fun v17 h17 => ?_))
    rw [h17, eor]
    exact c_height_do hrm e1 hn hc r4 hr hi lor' (fin _ lor' (by rw [hset]; exact m3) (fun z => absurd z hb) (fun _ => rfl) τr hrm)
  · have hbf : m.testBit h0 = false := (b_tst (by omega) (by omega)).mp (by rw [← h11]; exact hbit)
    have hpc := popc_set hbf 10 h9
    have mb : mostK k ≤ 4 := mostK_le k
    refine s_bitCount (by omega) (s_X4_most e1 hn hc k4 k1 ?_)
    rw [p31 m hm]
    refine ⟨fun z => ?_, fun z => s_settle_bad (Or.inr (Or.inr rfl)) ?_⟩
    · have z := (nI_ltI (by omega) (by omega)).mp z
      refine s_remember hJ (fun τr hrm => br_f hb (fun v17 h17 => ?_))
      rw [h17, eor]
      exact c_height_do hrm e1 hn hc r4 hr hi lor' (fin _ lor' (by omega) (fun z => absurd z hb) (fun _ => rfl) τr hrm)
    · have z : ¬ popc 10 m < mostK k := fun y => z ((nI_ltI (by omega) (by omega)).mpr y)
      refine r_height (nc := n) (k := k) (r := r) (m := m) (m2 := m ||| 2 ^ h0) e2 hn hc k2 k4 r2 hr hi h9 m2 hm hJ.hz (fun y => absurd y hb) (fun _ => rfl) lor' (fun y => absurd y (by rw [p31 _ lor']; omega)) (fun _ => ⟨rfl, hJ⟩)
/-! heightAt -/
def hR (m : Nat) (a : Int32) (h : Nat) : Prop := h < 10 ∧ m.testBit h = true ∧ nI (popc h m) = a
theorem c_hn {m : Nat} (hm : m < 1024) {a : Int32} {τ : kT} {post : Int32 → kT → Prop} (h1 : ∀ h, hR m a h → (∀ j, j < h → ¬ hR m a j) → post (nI h) τ) (h0 : (∀ h, ¬ hR m a h) → post (-12) τ) : T_X10_heightNumber (nI m) a τ post := by
  have key : ∀ n h, h + n = 10 → (∀ j, j < h → ¬ hR m a j) → L_X10_heightNumber_4 (nI m) a (fun v8 v9 τ10 => post (-12 : Int32) τ10) post (n + 1) (nI (popc h m)) (nI h) τ := by
    intro n
    induction n with
    | zero =>
      intro h hh hno
      have hh : h = 10 := by omega
      subst hh
      unfold L_X10_heightNumber_4
      exact br_t (by decide) (h0 (fun h z => hno h z.1 z))
    | succ n ih =>
      intro h hh hno
      unfold L_X10_heightNumber_4
      refine br_f (nI_nlt (a := 9) (by omega) (by omega)) ⟨fun q v3 h3 => ?_, fun q => ⟨fun q2 v5 h5 v6 h6 => ?_, fun q2 => ?_⟩⟩
      · have q := (b_tst (by omega) (by omega)).mp q
        have e : popc (h + 1) m = popc h m := by rw [popc_tb, q]; rfl
        rw [h3, show nI h + 1 = nI (h + 1) from nI_1 h, ← e]
        refine ih (h + 1) (by omega) (fun j hj z => ?_)
        by_cases e2 : j = h
        · subst e2; exact absurd (q.symm.trans z.2.1) (by decide)
        · exact hno j (by omega) z
      · have q : m.testBit h = true := by
          rcases Bool.eq_false_or_eq_true (m.testBit h) with z | z
          · exact z
          · exact absurd ((b_tst (by omega) (by omega)).mpr z) q
        have e : popc (h + 1) m = popc h m + 1 := by rw [popc_tb, q]; rfl
        rw [h5, h6, show nI h + 1 = nI (h + 1) from nI_1 h, nI_1, ← e]
        refine ih (h + 1) (by omega) (fun j hj z => ?_)
        by_cases e2 : j = h
        · subst e2; exact q2 z.2.2
        · exact hno j (by omega) z
      · refine h1 h ⟨by omega, ?_, q2⟩ hno
        rcases Bool.eq_false_or_eq_true (m.testBit h) with z | z
        · exact z
        · exact absurd ((b_tst (by omega) (by omega)).mpr z) q
  exact ⟨11, key 10 0 (by omega) (fun j hj => absurd hj (by omega))⟩
theorem popc_le (m : Nat) : ∀ k, popc k m ≤ k := fun k => by
  induction k with
  | zero => exact Nat.le_refl _
  | succ k ih => rw [popc_tb]; cases m.testBit k <;> simp <;> omega
theorem sub_self32 (a b : Int32) : a - b = 0 ↔ b = a := by
  constructor
  · intro h
    have : a = b := by rw [← Int32.sub_add_cancel a b, h, Int32.zero_add]
    exact this.symm
  · intro h; rw [h, Int32.sub_self]
theorem r_hn {m : Nat} (hm : m < 1024) {f1 f2 a f4 : Int32} {τ : kT} {K : Int32 → Int32 → kT → Prop} {post : Int32 → kT → Prop} (h1 : ∀ h, hR m a h → (∀ j, j < h → ¬ hR m a j) → post (nI h) (q_si τ 66 4 0)) (h0 : (∀ h, ¬ hR m a h) → ∀ x y, K x y τ) : ∃ n, L_X11_heightAt_65 f1 f2 a f4 (nI m) K post n a 0 τ := by
  by_cases ha : a < 0
  · refine ⟨1, ?_⟩
    unfold L_X11_heightAt_65
    refine br_f (by decide) (br_t ha (h0 (fun h z => ?_) _ _))
    rw [← z.2.2] at ha
    exact absurd ha (nI_pos (by have := popc_le m h; have := z.1; omega))
  have key : ∀ n h, h + n = 10 → (∀ j, j < h → ¬ hR m a j) → L_X11_heightAt_65 f1 f2 a f4 (nI m) K post (n + 1) (a - nI (popc h m)) (nI h) τ := by
    intro n
    induction n with
    | zero =>
      intro h hh hno
      have hh : h = 10 := by omega
      subst hh
      unfold L_X11_heightAt_65
      exact br_t (by decide) (h0 (fun h z => hno h z.1 z) _ _)
    | succ n ih =>
      intro h hh hno
      unfold L_X11_heightAt_65
      have eb : (nI m >>> (nI h &&& 31)) &&& (1 : Int32) = nI ((m.testBit h).toNat) := by
        rw [b_shr (by omega) (by omega), show (1 : Int32) = nI 1 from rfl, b_and, b_bit]
      rw [eb]
      refine br_f (nI_ge (b := 10) (by omega) (by decide)) (br_f ha ⟨fun q v3 h3 => ?_, fun q => ⟨fun q2 v5 h5 v6 h6 => ?_, fun q2 => s_well ?_⟩⟩)
      · have q : m.testBit h = false := by
          cases z : m.testBit h with
          | false => rfl
          | true => rw [z] at q; exact absurd rfl q
        have e : popc (h + 1) m = popc h m := by rw [popc_tb, q]; rfl
        rw [h3, show nI h + 1 = nI (h + 1) from nI_1 h, ← e]
        refine ih (h + 1) (by omega) (fun j hj z => ?_)
        by_cases e2 : j = h
        · subst e2; exact absurd (q.symm.trans z.2.1) (by decide)
        · exact hno j (by omega) z
      · have q : m.testBit h = true := by
          cases z : m.testBit h with
          | true => rfl
          | false => rw [z] at q; exact absurd q (by decide)
        have e : popc (h + 1) m = popc h m + 1 := by rw [popc_tb, q]; rfl
        have e5 : a - nI (popc h m) + (-1 : Int32) = a - nI (popc (h + 1) m) := by
          rw [e, ← nI_1, Int32.sub_eq_add_neg a, Int32.sub_eq_add_neg a, Int32.neg_add, Int32.sub_eq_add_neg (-nI (popc h m)), Int32.add_assoc]
        rw [h5, h6, show nI h + 1 = nI (h + 1) from nI_1 h, e5]
        refine ih (h + 1) (by omega) (fun j hj z => ?_)
        by_cases e2 : j = h
        · subst e2; exact q2 ((sub_self32 _ _).mpr z.2.2)
        · exact hno j (by omega) z
      · refine h1 h ⟨by omega, ?_, (sub_self32 _ _).mp q2⟩ hno
        cases z : m.testBit h with
        | true => rfl
        | false => rw [z] at q; exact absurd q (by decide)
  have := key 10 0 (by omega) (fun j hj => absurd hj (by omega))
  rw [show a - nI (popc 0 m) = a from Int32.sub_zero a] at this
  exact ⟨11, this⟩
theorem k_heightAt_op : K_heightAt J := by
  intro a p x τ hJ
  obtain ⟨n, hn, e1, e2, e3⟩ := hJ.nc
  unfold T_X10_heightAt T_X10_lookAtHeight
  by_cases h : inn a n
  case neg =>
    refine s_X4_has_f e1 (by omega) h (bn_f rfl (s_settle_bad (Or.inl rfl) ?_))
    unfold T_X11_heightAt
    exact s_X11_isCylinder_f e2 (by omega) h (bn_f rfl ⟨rfl, hJ⟩)
  obtain ⟨c, hc, rfl⟩ := h
  have hcN : c < N (q_i τ 67) 8522 := by rw [e3]; exact hc
  refine s_X4_has_t e1 (by omega) hc (bn_t (by decide) ?_)
  refine s_chF hJ e1 hn hc hcN (fun q => ?_) (fun q r => ?_) (fun q r hr r2 hi => ?_) (fun q r i hr r2 r4 hi ep => ?_)
  · refine br_f (by decide) (s_settle_met (f := 3) ⟨by decide, by decide⟩ ?_)
    unfold T_X11_heightAt
    exact s_X11_isCylinder_t e2 (by omega) hc (bn_t (by decide) (r_wrong4 (by omega) q (br_f (by decide) (s_met ⟨by decide, e_met hJ 3⟩))))
  · refine br_f (by decide) (s_settle_met (f := 1) ⟨by decide, by decide⟩ ?_)
    unfold T_X11_heightAt
    exact s_X11_isCylinder_t e2 (by omega) hc (bn_t (by decide) (r_wrong1 (by omega) q r (br_f (by decide) (s_met ⟨by decide, e_met hJ 1⟩))))
  · refine br_f (by decide) (s_settle_met (f := 2) ⟨by decide, by decide⟩ ?_)
    unfold T_X11_heightAt
    exact s_X11_isCylinder_t e2 (by omega) hc (bn_t (by decide) (r_wrong2 (by omega) q r2 hr hi (br_f (by decide) (s_met ⟨by decide, e_met hJ 2⟩))))
  subst ep
  obtain ⟨m, hm, m1, m2, m3⟩ := hJ.hts hcN r2 hr hi
  refine br_t rfl (s_heightsIn e1 hn hc r4 hr hi ?_)
  rw [m1]
  refine ⟨fun z => c_hn hm (fun h hR1 hno => s_settle_n (by have := hR1.1; omega) ?_) (fun hno => s_settle_met (f := 2) ⟨by decide, by decide⟩ ?_), fun z => s_settle_met (f := 1) ⟨by decide, by decide⟩ ?_⟩
  · unfold T_X11_heightAt
    refine s_X11_isCylinder_t e2 (by omega) hc (bn_t (by decide) (r_wrong0 (by omega) q r2 hr hi (br_t (by decide) ⟨400 + 18 * c + i, ev_3 400 18 c i, by omega, fun v8 h8 => ?_⟩)))
    have h8 : v8 = nI m := by rw [h8]; exact m2
    rw [h8]
    refine bn_t z (r_hn hm (fun h' hR2 hno2 => ⟨?_, e_well hJ⟩) (fun hn2 => absurd hR1 (hn2 h)))
    rcases Nat.lt_trichotomy h h' with y | y | y
    · exact absurd hR1 (hno2 h y)
    · rw [y]
    · exact absurd hR2 (hno h' y)
  · unfold T_X11_heightAt
    refine s_X11_isCylinder_t e2 (by omega) hc (bn_t (by decide) (r_wrong0 (by omega) q r2 hr hi (br_t (by decide) ⟨400 + 18 * c + i, ev_3 400 18 c i, by omega, fun v8 h8 => ?_⟩)))
    have h8 : v8 = nI m := by rw [h8]; exact m2
    rw [h8]
    exact bn_t z (r_hn hm (fun h' hR2 hno2 => absurd hR2 (hno h')) (fun _ x y => s_met ⟨by decide, e_met hJ 2⟩))
  · unfold T_X11_heightAt
    refine s_X11_isCylinder_t e2 (by omega) hc (bn_t (by decide) (r_wrong0 (by omega) q r2 hr hi (br_t (by decide) ⟨400 + 18 * c + i, ev_3 400 18 c i, by omega, fun v8 h8 => ?_⟩)))
    have h8 : v8 = nI m := by rw [h8]; exact m2
    rw [h8]
    exact bn_f z (s_met ⟨by decide, e_met hJ 1⟩)
