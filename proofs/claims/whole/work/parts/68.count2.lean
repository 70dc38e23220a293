/-! ===== count: the reference ===== -/
def RD (τ0 τ : kT) (f : Nat → Nat) (W : Nat → Nat) : Prop := RT τ0 τ ∧ (∀ i, i < 18 → q_i τ 75 i = nI (f i)) ∧ ∀ w, w < 10 → q_l τ 76 w = Int64.ofNat (W w)
theorem RD.s77 {τ0 τ : kT} {f W : Nat → Nat} (h : RD τ0 τ f W) (k : Nat) (v : Int64) : RD τ0 (q_sl τ 77 k v) f W := ⟨⟨h.1.1, fun x n1 n2 => by rw [q_l_sl, if_neg n2]; exact h.1.2.1 x n1 n2, h.1.2.2⟩, h.2.1, fun w hw => by rw [q_l_sl, if_neg (by decide)]; exact h.2.2 w hw⟩
theorem RT.s76 {τ0 τ : kT} (h : RT τ0 τ) (k : Nat) (v : Int64) : RT τ0 (q_sl τ 76 k v) := ⟨h.1, fun x n1 n2 => by rw [q_l_sl, if_neg n1]; exact h.2.1 x n1 n2, h.2.2⟩
theorem l_at {τ : kT} {x k : Nat} {v : Int64} : q_l (q_sl τ x k v) x k = v := by rw [q_l_sl, if_pos rfl]; exact if_pos rfl
theorem l_ne {τ : kT} {x k j : Nat} {v : Int64} (h : j ≠ k) : q_l (q_sl τ x k v) x j = q_l τ x j := by rw [q_l_sl, if_pos rfl]; exact if_neg h
theorem neg_ok : ∀ st, st < 10 → (-nI st).toInt = -(st : Int) := by decide
def gS (f : Nat → Nat) (st i v : Nat) : Nat → Nat := fun w => if (f (i + 1)).testBit v then nrS st (WW f st i) v w else 0
theorem gS_sum (f : Nat → Nat) (st i v : Nat) : sumTo (gS f st i v) 10 = WW f st (i + 1) v := by
  show _ = (if (f (i + 1)).testBit v then sumTo (nrS st (WW f st i) v) 10 else 0)
  have z : ∀ n, sumTo (gS f st i v) n = if (f (i + 1)).testBit v then sumTo (nrS st (WW f st i) v) n else 0 := by
    intro n
    induction n with
    | zero => unfold sumTo; split <;> rfl
    | succ n ih =>
      unfold sumTo gS
      unfold gS at ih
      rw [ih]
      split <;> rfl
  exact z 10
theorem r_186 {τ0 : kT} {a1 a2 : Int32} {f : Nat → Nat} {st i v : Nat} (hf : ∀ i, f i < 1024) (hs : st < 10) (hi : i + 1 < 18) (hv : v < 10) {K : Int32 → kT → Prop} {post : Int64 → kT → Prop} (h : ∀ u τ2, RD τ0 τ2 f (WW f st i) → (∀ w, w < v + 1 → q_l τ2 77 w = Int64.ofNat (WW f st (i + 1) w)) → K u τ2) : ∀ m w τ2, w + m = 10 → RD τ0 τ2 f (WW f st i) → (∀ u, u < v → q_l τ2 77 u = Int64.ofNat (WW f st (i + 1) u)) → q_l τ2 77 v = Int64.ofNat (sumTo (gS f st i v) w) → L_X11_count_186 a1 a2 (nI st) (nI (i + 1)) (nI v) K post (m + 1) (nI w) τ2 := by
  intro m
  induction m with
  | zero =>
    intro w τ2 hw h2 hM h7
    have hw : w = 10 := by omega
    subst hw
    unfold L_X11_count_186
    refine br_t (by decide) (h _ τ2 h2 (fun u hu => ?_))
    by_cases e : u = v
    · rw [e, h7, gS_sum]
    · exact hM u (by omega)
  | succ m ih =>
    intro w τ2 hw h2 hM h7
    have hfi := hf (i + 1)
    have step : ∀ (τ3 : kT) (x : Int64), τ3 = q_sl τ2 77 v x → x = Int64.ofNat (sumTo (gS f st i v) (w + 1)) → L_X11_count_186 a1 a2 (nI st) (nI (i + 1)) (nI v) K post (m + 1) (nI (w + 1)) τ3 := by
      intro τ3 x h3 hx
      subst h3
      exact ih (w + 1) _ (by omega) (h2.s77 _ _) (fun u hu => by rw [l_ne (by omega)]; exact hM u hu) (by rw [l_at]; exact hx)
    have e1 : sumTo (gS f st i v) (w + 1) = sumTo (gS f st i v) w + gS f st i v w := rfl
    have t1 : (nI v - nI w).toInt64.toInt = (v : Int) - w := by rw [i_64, pk_sub_toInt (by omega) (by omega)]
    have t2 : (-nI st).toInt64.toInt = -(st : Int) := by rw [i_64]; exact neg_ok st hs
    have t3 : (nI st).toInt64.toInt = (st : Int) := by rw [i_64, nI_toInt (by omega)]
    unfold L_X11_count_186
    refine br_f (nI_ge (b := 10) (by omega) (by decide)) ⟨v, rfl, hv, ?_⟩
    by_cases q : near st v w
    · refine s_in_t (by rw [t1, t2, t3]; have := q.1; have := q.2; omega) (br_f (by decide) ⟨i + 1, rfl, hi, ?_⟩)
      rw [h2.2.1 (i + 1) hi, b_shr (by omega) (by omega), show (1 : Int32) = nI 1 from rfl, b_and, b_bit]
      cases z : (f (i + 1)).testBit v with
      | true =>
        refine bn_f rfl ⟨w, rfl, by omega, v, rfl, hv, fun τ52 h52 v53 h53 => ?_⟩
        rw [h53, show nI w + nI 1 = nI (w + 1) from nI_add w 1]
        refine step τ52 _ h52 ?_
        rw [h7, h2.2.2 w (by omega), i64_add, e1]
        unfold gS nrS
        rw [z, if_pos rfl, if_pos q]
      | false =>
        refine bn_t (by decide) ⟨v, rfl, hv, fun τ48 h48 v49 h49 => ?_⟩
        rw [h49, show nI w + nI 1 = nI (w + 1) from nI_add w 1]
        refine step τ48 _ h48 ?_
        rw [h7, Int64.add_zero, e1]
        unfold gS
        rw [z]; rfl
    · refine s_in_f (by rw [t1, t2, t3]; exact fun y => q ⟨by omega, by omega⟩) (br_t rfl ⟨v, rfl, hv, fun τ43 h43 v44 h44 => ?_⟩)
      rw [h44, show nI w + 1 = nI (w + 1) from nI_1 w]
      refine step τ43 _ h43 ?_
      rw [h7, Int64.add_zero, e1]
      have : gS f st i v w = 0 := by
        unfold gS nrS
        rw [if_neg q]
        split <;> rfl
      rw [this]; rfl
theorem r_168 {τ0 τ : kT} {a1 a2 : Int32} {f : Nat → Nat} {st i : Nat} (hf : ∀ i, f i < 1024) (hs : st < 10) (hi : i + 1 < 18) (hD : RD τ0 τ f (WW f st i)) {K : Int32 → kT → Prop} {post : Int64 → kT → Prop} (h : ∀ u τ2, RD τ0 τ2 f (WW f st i) → (∀ w, w < 10 → q_l τ2 77 w = Int64.ofNat (WW f st (i + 1) w)) → K u τ2) : ∃ m, L_X11_count_168 a1 a2 (nI st) (nI (i + 1)) K post m 0 τ := by
  have key : ∀ m v τ2, v + m = 10 → RD τ0 τ2 f (WW f st i) → (∀ w, w < v → q_l τ2 77 w = Int64.ofNat (WW f st (i + 1) w)) → L_X11_count_168 a1 a2 (nI st) (nI (i + 1)) K post (m + 1) (nI v) τ2 := by
    intro m
    induction m with
    | zero =>
      intro v τ2 hv h2 hM
      have hv : v = 10 := by omega
      subst hv
      unfold L_X11_count_168
      exact br_t (by decide) (h _ τ2 h2 hM)
    | succ m ih =>
      intro v τ2 hv h2 hM
      unfold L_X11_count_168
      refine br_f (nI_ge (b := 10) (by omega) (by decide)) ⟨v, rfl, by omega, fun τ36 h36 => ⟨11, ?_⟩⟩
      subst h36
      refine r_186 hf hs hi (by omega) (fun u τ3 h3 hM3 v57 h57 => ?_) 10 0 _ (by omega) (h2.s77 _ _) (fun u hu => by rw [l_ne (by omega)]; exact hM u hu) l_at
      rw [h57, show nI v + 1 = nI (v + 1) from nI_1 v]
      exact ih (v + 1) τ3 (by omega) h3 hM3
  exact ⟨11, key 10 0 τ (by omega) hD (fun w hw => absurd hw (by omega))⟩
theorem r_262 {τ0 τ : kT} {a1 a2 a3 a4 : Int32} {f W W2 : Nat → Nat} (hD : RD τ0 τ f W) (hM : ∀ w, w < 10 → q_l τ 77 w = Int64.ofNat (W2 w)) {K : Int32 → kT → Prop} {post : Int64 → kT → Prop} (h : ∀ u τ2, RD τ0 τ2 f W2 → K u τ2) : ∃ m, L_X11_count_262 a1 a2 a3 a4 K post m 0 τ := by
  have key : ∀ m v τ2, v + m = 10 → RT τ0 τ2 → (∀ i, i < 18 → q_i τ2 75 i = nI (f i)) → (∀ w, w < 10 → q_l τ2 77 w = Int64.ofNat (W2 w)) → (∀ w, w < v → q_l τ2 76 w = Int64.ofNat (W2 w)) → L_X11_count_262 a1 a2 a3 a4 K post (m + 1) (nI v) τ2 := by
    intro m
    induction m with
    | zero =>
      intro v τ2 hv h2 hm h7 h6
      have hv : v = 10 := by omega
      subst hv
      unfold L_X11_count_262
      exact br_t (by decide) (h _ τ2 ⟨h2, hm, h6⟩)
    | succ m ih =>
      intro v τ2 hv h2 hm h7 h6
      unfold L_X11_count_262
      refine br_f (nI_ge (b := 10) (by omega) (by decide)) ⟨v, rfl, by omega, v, rfl, by omega, fun τ64 h64 v65 h65 => ?_⟩
      subst h64
      rw [h65, show nI v + 1 = nI (v + 1) from nI_1 v]
      refine ih (v + 1) _ (by omega) (h2.s76 _ _) hm (fun w hw => by rw [q_l_sl, if_neg (by decide)]; exact h7 w hw) (fun w hw => ?_)
      by_cases e : w = v
      · rw [e, l_at]; exact h7 v (by omega)
      · rw [l_ne e]; exact h6 w (by omega)
  exact ⟨11, key 10 0 τ (by omega) hD.1 hD.2.1 hM (fun w hw => absurd hw (by omega))⟩
theorem r_countUp {τ0 τ : kT} {a1 : Int32} {n st : Nat} {f : Nat → Nat} (hf : ∀ i, f i < 1024) (hs : st < 10) (hn : n ≤ 18) (hn0 : n ≠ 0) (hT : RT τ0 τ) (hm : ∀ i, i < 18 → q_i τ 75 i = nI (f i)) {post : Int64 → kT → Prop} (h : ∀ τ2, RT τ0 τ2 → post (Int64.ofNat (sumTo (WW f st (n - 1)) 10)) τ2) : ∃ m30 : Nat, L_X11_count_124 a1 (nI n) (nI st) (fun v31 τ32 => (∃ m70 : Nat, L_X11_count_159 a1 (nI n) (nI st) (fun v71 τ72 => (∃ m77 : Nat, L_X11_count_301 a1 (nI n) (nI st) (fun v78 v79 τ80 => post v78 τ80) post m77 (0 : Int64) (0 : Int32) τ72)) post m70 (1 : Int32) τ32)) post m30 (0 : Int32) τ := by
  have last : ∀ τ2, RD τ0 τ2 f (WW f st (n - 1)) → ∃ m77 : Nat, L_X11_count_301 a1 (nI n) (nI st) (fun v78 v79 τ80 => post v78 τ80) post m77 (0 : Int64) (0 : Int32) τ2 := by
    intro τ2 h2
    have key : ∀ m v, v + m = 10 → L_X11_count_301 a1 (nI n) (nI st) (fun v78 v79 τ80 => post v78 τ80) post (m + 1) (Int64.ofNat (sumTo (WW f st (n - 1)) v)) (nI v) τ2 := by
      intro m
      induction m with
      | zero =>
        intro v hv
        have hv : v = 10 := by omega
        subst hv
        unfold L_X11_count_301
        exact br_t (by decide) (h τ2 h2.1)
      | succ m ih =>
        intro v hv
        unfold L_X11_count_301
        refine br_f (nI_ge (b := 10) (by omega) (by decide)) ⟨v, rfl, by omega, fun v19 h19 v20 h20 => ?_⟩
        rw [h20, show nI v + 1 = nI (v + 1) from nI_1 v, h19, h2.2.2 v (by omega), i64_add]
        exact ih (v + 1) (by omega)
    exact ⟨11, key 10 0 (by omega)⟩
  have mid : ∀ τ2, RD τ0 τ2 f (WW f st 0) → ∃ m70 : Nat, L_X11_count_159 a1 (nI n) (nI st) (fun v71 τ72 => (∃ m77 : Nat, L_X11_count_301 a1 (nI n) (nI st) (fun v78 v79 τ80 => post v78 τ80) post m77 (0 : Int64) (0 : Int32) τ72)) post m70 (1 : Int32) τ2 := by
    intro τ2 h2
    have key : ∀ m i τ3, i + 1 + m = n → RD τ0 τ3 f (WW f st i) → L_X11_count_159 a1 (nI n) (nI st) (fun v71 τ72 => (∃ m77 : Nat, L_X11_count_301 a1 (nI n) (nI st) (fun v78 v79 τ80 => post v78 τ80) post m77 (0 : Int64) (0 : Int32) τ72)) post (m + 1) (nI (i + 1)) τ3 := by
      intro m
      induction m with
      | zero =>
        intro i τ3 hi h3
        unfold L_X11_count_159
        refine br_t (nI_le (by omega) (by omega)) (last τ3 ?_)
        rw [show n - 1 = i by omega]
        exact h3
      | succ m ih =>
        intro i τ3 hi h3
        unfold L_X11_count_159
        refine br_f (nI_ge (by omega) (by omega)) (r_168 hf hs (by omega) h3 (fun u τ4 h4 hM => r_262 h4 hM (fun u2 τ5 h5 v69 h69 => ?_)))
        rw [h69, show nI (i + 1) + 1 = nI (i + 1 + 1) from nI_1 (i + 1)]
        exact ih (i + 1) τ5 (by omega) h5
    exact ⟨n - 1 + 1, key (n - 1) 0 τ2 (by omega) h2⟩
  have key : ∀ m v τ2, v + m = 10 → RT τ0 τ2 → (∀ i, i < 18 → q_i τ2 75 i = nI (f i)) → (∀ w, w < v → q_l τ2 76 w = Int64.ofNat (WW f st 0 w)) → L_X11_count_124 a1 (nI n) (nI st) (fun v31 τ32 => (∃ m70 : Nat, L_X11_count_159 a1 (nI n) (nI st) (fun v71 τ72 => (∃ m77 : Nat, L_X11_count_301 a1 (nI n) (nI st) (fun v78 v79 τ80 => post v78 τ80) post m77 (0 : Int64) (0 : Int32) τ72)) post m70 (1 : Int32) τ32)) post (m + 1) (nI v) τ2 := by
    intro m
    induction m with
    | zero =>
      intro v τ2 hv h2 hm2 hw
      have hv : v = 10 := by omega
      subst hv
      unfold L_X11_count_124
      exact br_t (by decide) (mid τ2 ⟨h2, hm2, hw⟩)
    | succ m ih =>
      intro v τ2 hv h2 hm2 hw
      have hf0 := hf 0
      unfold L_X11_count_124
      refine br_f (nI_ge (b := 10) (by omega) (by decide)) ⟨v, rfl, by omega, fun τ4 h4 v5 h5 => ?_⟩
      rw [hm2 0 (by omega), b_shr (by omega) (by omega), show (1 : Int32) = nI 1 from rfl, b_and, b_bit, bit64] at h4
      rw [h5, show nI v + 1 = nI (v + 1) from nI_1 v, h4]
      refine ih (v + 1) _ (by omega) (h2.s76 _ _) hm2 (fun w hw2 => ?_)
      by_cases e : w = v
      · rw [e, l_at]
        congr 1
        show _ = if (f 0).testBit v then 1 else 0
        cases (f 0).testBit v <;> rfl
      · rw [l_ne e]; exact hw w (by omega)
  exact ⟨11, key 10 0 τ (by omega) hT hm (fun w hw => absurd hw (by omega))⟩
/-! a door's parts -/
def prt (s : Nat → Int32) (v : Int32) : Int32 × Int32 := if v ≠ -1 ∧ s v.toNatClampNeg = 4 then (s (200 + v.toNatClampNeg), s (300 + v.toNatClampNeg)) else (v, v)
def miss (s : Nat → Int32) (v : Int32) : Prop := v = -1 ∨ s (100 + v.toNatClampNeg) = -1
def f0 : Nat → Nat := fun _ => 1023
theorem s_isMissing {τ : kT} {v : Int32} (hJ : J τ) (hv : z_or v (· < N (q_i τ 67) 8522)) {post : Int32 → kT → Prop} (h1 : miss (q_i τ 67) v → post 1 τ) (h0 : ¬ miss (q_i τ 67) v → post 0 τ) : T_X2_isMissing v τ post := by
  obtain ⟨nc, hnc, c1, c2, c3⟩ := hJ.nc
  unfold T_X2_isMissing
  rcases hv with rfl | ⟨c, hc, rfl⟩
  · exact br_t rfl (h1 (Or.inl rfl))
  · have hc : c < N (q_i τ 67) 8522 := hc
    have hc2 : c < nc := by rw [← c3]; exact hc
    have k1 : q_i τ 3 c = q_i τ 67 c := hJ.2.1.1 (1, c, 0) ⟨hc, rfl⟩
    have r1 : q_i τ 4 c = q_i τ 67 (100 + c) := hJ.2.1.1 (2, c, 0) ⟨hc, rfl⟩
    have n1 : ¬ nI c = -1 := nI_m1 (by omega)
    refine br_f n1 ?_
    rcases hJ.1.row hc with ⟨z, z2⟩ | ⟨r, hr, z, z2⟩
    · exact s_X4_isOut_t c1 hnc hc2 (by rw [k1]; exact z2) (by rw [r1]; exact z) (br_f (by decide) (h1 (Or.inr (by rw [nI_clamp (by omega)]; exact z))))
    · have zz : q_i τ 67 (100 + c) ≠ -1 := by rw [z]; exact nI_m1 (by omega)
      refine s_X4_isOut_f c1 hnc hc2 (by rw [r1]; exact zz) (br_t rfl (h0 ?_))
      rintro (y | y)
      · exact n1 y
      · rw [nI_clamp (by omega)] at y; exact zz y
