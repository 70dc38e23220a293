theorem RS_0 {τ τ1 τ2 : kT} (h1 : τ1 = q_si τ 66 9 0) (h2 : τ2 = q_si τ1 66 7 (-1)) : RS τ τ2 0 (q_i τ 69) (-1) := by
  refine ⟨fun x n1 n2 => ?_, fun x => ?_, fun k n9 n7 => ?_, ?_, ?_, ?_⟩
  · rw [h2, h1, q_i_si, if_neg n1, q_i_si, if_neg n1]
  · rw [h2, h1]; rfl
  · rw [h2, h1, q_i_si, if_pos rfl, upd_at, if_neg n7, q_i_si, if_pos rfl, upd_at, if_neg n9]
  · rw [h2, h1]; rfl
  · rw [h2, h1]; rfl
  · rw [h2, h1]; rfl
theorem lt_1 (l : List Int32) : lt 1 l = l := by unfold lt; rw [if_neg (by decide)]
theorem k_turnOne {τ τ1 τ2 : kT} {v : Int32} {k : Nat} (hJ : J τ) (hk : k < N (q_i τ 67) 8523) (hv : z_or v (fun x => x < N (q_i τ 67) 8522)) (h1 : TS τ τ1 (0 + (tgK (q_i τ 67) k v).length) (pshL 0 (q_i τ 41) (tgK (q_i τ 67) k v)) (spO 0 (rwK (q_i τ 67) k v) (-1))) (h2 : SC τ1 τ2 (fdC (rwK (q_i τ 67) k v).1) (fiC (rwK (q_i τ 67) k v).1)) : T_X11_turnOne (nI k) v τ2 (fun r τ5 => cC (rwK (q_i τ 67) k v).1 = r ∧ J τ5) := by
  have e67 : q_i τ2 67 = q_i τ 67 := by rw [h2.1 67 (by decide), h1.1 67 (by decide) (by decide) (by decide)]
  intro τ3 h3 τ4 h4
  refine r_tried (τ := τ2) (b := 1) (by rw [e67]; exact hJ.1) (RS_0 h3 h4) (by omega) (by rw [e67]; exact hk) (by rw [e67]; exact hv) (fun τ5 h5 τ6 h6 => ?_)
  rw [e67, lt_1] at h5
  rw [e67]
  refine r_end (rwK_1 _ _ _) (fun τ7 h7 => ⟨rfl, ?_⟩)
  rw [h5.2.2.2.2.2] at h6
  refine J_turn hJ h1 h2 h5 h6 h7 (by have := tgK_len (q_i τ 67) k v; omega) (fun i hi hi2 => ?_)
  exact pshL_agree _ 0 _ _ (fun i _ q => absurd q (by omega)) i hi hi2
theorem k_turn_op : K_turn J := by
  intro a b τ hJ
  obtain ⟨nk, hnk, k1, k2, k3⟩ := hJ.nk
  obtain ⟨nc, hnc, c1, c2, c3⟩ := hJ.nc
  unfold T_X10_turn T_X11_turn
  by_cases h : inn a nk
  · obtain ⟨k, hk, rfl⟩ := h
    refine s_X5_has_t k1 (by omega) hk (br_f (by decide) ?_)
    by_cases hb : inn b nc
    · obtain ⟨c, hc, rfl⟩ := hb
      refine s_X4_has_t c1 (by omega) hc (bn_t (by decide) (c_begin (fun τ1 h1 => ?_)))
      have hv : z_or (nI c) (fun x => x < N (q_i τ 67) 8522) := Or.inr ⟨c, by show c < _; rw [c3]; exact hc, rfl⟩
      refine c_try hJ h1 (by omega) (by rw [k3]; exact hk) hv (fun τ2 h2 => s_settle_c (rwK_1 _ _ _) (fun τ3 h3 => ?_))
      have e67 : q_i τ3 67 = q_i τ 67 := by rw [h3.1 67 (by decide), h2.1 67 (by decide) (by decide) (by decide)]
      refine s_X11_isKey_t (by rw [e67]; exact k2) (by omega) hk (br_f (by decide) ?_)
      refine s_X11_isCylinder_t (by rw [e67]; exact c2) (by omega) hc (br_f (by decide) ?_)
      exact k_turnOne hJ (by rw [k3]; exact hk) hv h2 h3
    · refine s_X4_has_f c1 (by omega) hb (bn_f rfl ?_)
      refine s_X11_isKey_t k2 (by omega) hk (br_f (by decide) ?_)
      exact s_X11_isCylinder_f c2 (by omega) hb (br_t rfl ⟨rfl, hJ⟩)
  · refine s_X5_has_f k1 (by omega) h (br_t rfl ?_)
    exact s_X11_isKey_f k2 (by omega) h (br_t rfl ⟨rfl, hJ⟩)
theorem J.lock {τ : kT} (h : J τ) {d : Nat} (hd : d < N (q_i τ 67) 8525) : q_i τ 19 d = q_i τ 67 (4464 + d) ∧ z_or (q_i τ 67 (4464 + d)) (fun x => x < N (q_i τ 67) 8522) := ⟨h.2.1.1 (13, d, 0) ⟨hd, rfl⟩, h.1.2.2.2.2.2.2.2.2.2.2.2.2.2.2.2 d hd⟩
theorem k_opens_op : K_opens J := by
  intro a b τ hJ
  obtain ⟨nk, hnk, k1, k2, k3⟩ := hJ.nk
  obtain ⟨nd, hnd, d1, d2, d3⟩ := hJ.nd
  unfold T_X10_opens T_X11_opens
  by_cases h : inn a nk
  · obtain ⟨k, hk, rfl⟩ := h
    refine s_X5_has_t k1 (by omega) hk (br_f (by decide) ?_)
    by_cases hb : inn b nd
    · obtain ⟨d, hd, rfl⟩ := hb
      obtain ⟨l1, hv⟩ := hJ.lock (d := d) (by rw [d3]; exact hd)
      refine s_X6_hasDoor_t d1 (by omega) hd (bn_t (by decide) (c_begin (fun τ1 h1 => ⟨d, rfl, by omega, ?_⟩)))
      rw [h1.1 19 (by decide) (by decide) (by decide), l1]
      refine c_try hJ h1 (by omega) (by rw [k3]; exact hk) hv (fun τ2 h2 => s_settle_c (rwK_1 _ _ _) (fun τ3 h3 => ?_))
      have e67 : q_i τ3 67 = q_i τ 67 := by rw [h3.1 67 (by decide), h2.1 67 (by decide) (by decide) (by decide)]
      refine s_X11_isKey_t (by rw [e67]; exact k2) (by omega) hk (br_f (by decide) ?_)
      refine s_X11_isDoor_t (by rw [e67]; exact d2) (by omega) hd (br_f (by decide) ⟨4464 + d, nI_add 4464 d, by omega, ?_⟩)
      rw [e67]
      exact k_turnOne hJ (by rw [k3]; exact hk) hv h2 h3
    · refine s_X6_hasDoor_f d1 (by omega) hb (bn_f rfl ?_)
      refine s_X11_isKey_t k2 (by omega) hk (br_f (by decide) ?_)
      exact s_X11_isDoor_f d2 (by omega) hb (br_t rfl ⟨rfl, hJ⟩)
  · refine s_X5_has_f k1 (by omega) h (br_t rfl ?_)
    exact s_X11_isKey_f k2 (by omega) h (br_t rfl ⟨rfl, hJ⟩)
/-! turnAll: place by place -/
/-- fuel, place, how many, what is noted: how many, the code of the last, what is noted, the spot -/
def allT (s : Nat → Int32) (k b : Nat) : Nat → Nat → Nat → List Int32 → Nat × Nat × List Int32 × Int32
  | 0, _, m, l => (m, 1, l, -1)
  | n + 1, p, m, l => if (rwK s k (s (4224 + 20 * b + p))).1 = 1 then allT s k b n (p + 1) (m + 1) (l ++ tgK s k (s (4224 + 20 * b + p))) else (m, (rwK s k (s (4224 + 20 * b + p))).1, l ++ tgK s k (s (4224 + 20 * b + p)), spO 0 (rwK s k (s (4224 + 20 * b + p))) (-1))
theorem allT_b (s : Nat → Int32) (k b : Nat) : ∀ n p m l, m = p → l.length ≤ 5 * p → (allT s k b n p m l).1 ≤ p + n ∧ (allT s k b n p m l).2.1 ≤ 3 ∧ (allT s k b n p m l).2.2.1.length ≤ 5 * (p + n)
  | 0, p, m, l, h1, h2 => ⟨by show m ≤ _; omega, by show 1 ≤ 3; omega, h2⟩
  | n + 1, p, m, l, h1, h2 => by
    unfold allT
    have hl := tgK_len s k (s (4224 + 20 * b + p))
    split
    · have := allT_b s k b n (p + 1) (m + 1) (l ++ tgK s k (s (4224 + 20 * b + p))) (by omega) (by rw [List.length_append]; omega)
      rw [show p + 1 + n = p + (n + 1) by omega] at this
      exact this
    · refine ⟨by show m ≤ _; omega, rwK_1 _ _ _, ?_⟩
      show (l ++ _).length ≤ _
      rw [List.length_append]; omega
def ansA (m c : Nat) : Int32 := if c ≤ 1 then nI m else cC c
def RQ (τ τ2 : kT) (n : Nat) (f : Nat → Int32) (sp : Int32) : Prop := (∀ x, x ≠ 66 → x ≠ 69 → q_i τ2 x = q_i τ x) ∧ (∀ x, q_l τ2 x = q_l τ x) ∧ (∀ k, k ≠ 9 → k ≠ 7 → k ≠ 6 → q_i τ2 66 k = q_i τ 66 k) ∧ q_i τ2 66 9 = nI n ∧ q_i τ2 69 = f ∧ q_i τ2 66 6 = sp
theorem J_turnQ {τ τ1 τ2 τ4 τ5 : kT} {n : Nat} {f g : Nat → Int32} {sp a b : Int32} (hJ : J τ) (h1 : TS τ τ1 n f sp) (h2 : SC τ1 τ2 a b) (h3 : RQ τ2 τ4 n g sp) (h5 : SR τ4 τ5 a b) (hn : n ≤ 1000) (hfg : ∀ i, i < 40 → i < n → g i = f i) : J τ5 := by
  obtain ⟨r1, r2, r3, r4, r5, r6⟩ := h3
  have z : J (q_si τ5 66 7 sp) := by
    refine J_turn hJ h1 h2 (τ3 := q_si (q_si τ4 66 6 (q_i τ2 66 6)) 66 7 sp) (τ4 := q_si (q_si (q_si τ4 66 6 (q_i τ2 66 6)) 66 7 sp) 66 6 sp) (τ5 := q_si τ5 66 7 sp) (n := n) (g := g) ⟨fun x n1 n2 => ?_, r2, fun k n9 n7 => ?_, r4, r5, rfl⟩ rfl ?_ hn hfg
    · rw [q_i_si, if_neg n1, q_i_si, if_neg n1]; exact r1 x n1 n2
    · rw [q_i_si, if_pos rfl, upd_at, if_neg n7, q_i_si, if_pos rfl, upd_at]
      by_cases hk : k = 6
      · rw [if_pos hk, hk]
      · rw [if_neg hk]; exact r3 k n9 n7 hk
    · obtain ⟨u1, u2, u3, u4, u5⟩ := h5
      refine ⟨fun x hx => ?_, u2, fun k n4 n5 => ?_, u4, u5⟩
      · rw [q_i_si, if_neg hx, u1 x hx, q_i_si, if_neg hx, q_i_si, if_neg hx, q_i_si, if_neg hx]
      · rw [q_i_si, if_pos rfl, upd_at, q_i_si, if_pos rfl, upd_at, q_i_si, if_pos rfl, upd_at, q_i_si, if_pos rfl, upd_at, u3 k n4 n5]
        by_cases h7 : k = 7
        · rw [if_pos h7, if_neg (by omega), if_pos h7]
        · rw [if_neg h7, if_neg h7]
          by_cases h6 : k = 6
          · rw [if_pos h6, h6]; exact r6
          · rw [if_neg h6, if_neg h6]
  have hz := z
  obtain ⟨z1, z2, z3, z4, z5, z6, z7, z8, z9, z10⟩ := z
  exact (hz : J (q_si τ5 66 7 sp)).keep ⟨fun x x1 x2 => by rw [q_i_si, if_neg (by omega)], fun _ _ _ => rfl, rfl, rfl⟩ ⟨rfl, rfl⟩ z6 z7 z8 z9
theorem s_ansA {m c : Nat} (hm : m < 2 ^ 20) (hc : c ≤ 3) {τ : kT} {post : Int32 → kT → Prop} (h : ∀ τ2, SC τ τ2 (fdC c) (fiC c) → post (ansA m c) τ2) : T_X10_settle (ansA m c) τ post := by
  unfold ansA at h ⊢
  by_cases q : c ≤ 1
  · rw [if_pos q] at h ⊢
    have e : fdC c = 0 ∧ fiC c = 0 := by
      rcases (by omega : c = 0 ∨ c = 1) with rfl | rfl <;> decide
    rw [e.1, e.2] at h
    exact s_settle_n (by omega) (h _ (SC_0 τ))
  · rw [if_neg q] at h ⊢
    exact s_settle_c hc h
theorem c_all {τ τ1 : kT} {k b w : Nat} (hJ : J τ) (hk : k < N (q_i τ 67) 8523) (hb : b < N (q_i τ 67) 8524) (hw : q_i τ 67 (4212 + b) = nI w) (hw2 : w ≤ 20) (h1 : TS τ τ1 0 (q_i τ 41) (-1)) {post : Int32 → kT → Prop}
    (h : ∀ τ3, TS τ τ3 (allT (q_i τ 67) k b w 0 0 []).2.2.1.length (pshL 0 (q_i τ 41) (allT (q_i τ 67) k b w 0 0 []).2.2.1) (allT (q_i τ 67) k b w 0 0 []).2.2.2 → post (ansA (allT (q_i τ 67) k b w 0 0 []).1 (allT (q_i τ 67) k b w 0 0 []).2.1) τ3) : T_X10_turnPlaceByPlace (nI b) (nI k) τ1 post := by
  obtain ⟨nb, hnb, b1, b2, b3⟩ := hJ.nb
  have hbn : b < nb := by rw [← b3]; exact hb
  have ew : q_i τ 17 b = nI w := (hJ.2.1.1 (11, b, 0) ⟨hb, rfl⟩).trans hw
  have key : ∀ n p m l τ2, p + n = w → m = p → l.length ≤ 5 * p → TS τ τ2 l.length (pshL 0 (q_i τ 41) l) (-1) → (∀ τ3, TS τ τ3 (allT (q_i τ 67) k b n p m l).2.2.1.length (pshL 0 (q_i τ 41) (allT (q_i τ 67) k b n p m l).2.2.1) (allT (q_i τ 67) k b n p m l).2.2.2 → post (ansA (allT (q_i τ 67) k b n p m l).1 (allT (q_i τ 67) k b n p m l).2.1) τ3) → L_X10_turnPlaceByPlace_5 (nI b) (nI k) (fun v12 v13 τ14 => post v12 τ14) post (n + 1) (nI m) (nI p) τ2 := by
    intro n
    induction n with
    | zero =>
      intro p m l τ2 hp hm hl hT h
      unfold L_X10_turnPlaceByPlace_5
      exact ⟨b, rfl, by omega, br_t (by rw [hT.1 17 (by decide) (by decide) (by decide), ew]; exact nI_le (by omega) (by omega)) (h τ2 hT)⟩
    | succ n ih =>
      intro p m l τ2 hp hm hl hT h
      unfold L_X10_turnPlaceByPlace_5
      refine ⟨b, rfl, by omega, br_f (by rw [hT.1 17 (by decide) (by decide) (by decide), ew]; exact nI_ge (by omega) (by omega)) ?_⟩
      unfold T_X0_cylinderAt
      refine s_X0_hasPlace_t (n := nb) (m := w) (by rw [hT.1 15 (by decide) (by decide) (by decide)]; exact b1) hnb hbn (by rw [hT.1 17 (by decide) (by decide) (by decide)]; exact ew) (by omega) (i := p) (by omega) (br_f (by decide) ⟨b * 20 + p, by rw [← nI_add, ← pk_mul]; rfl, by omega, ?_⟩)
      have eN : N (q_i τ 67) (4212 + b) = w := by unfold N; rw [hw, nI_clamp (by omega)]
      have ev : q_i τ2 18 (b * 20 + p) = q_i τ 67 (4224 + 20 * b + p) := by
        rw [hT.1 18 (by decide) (by decide) (by decide)]
        exact hJ.2.1.1 (12, b, p) ⟨hb, by rw [eN]; omega⟩
      rw [ev]
      have hv := hJ.1.2.2.2.2.2.2.2.2.2.2.2.2.2.2.1 b p hb (by rw [eN]; omega)
      refine c_try hJ hT (by omega) hk hv (fun τ3 h3 => ?_)
      have hl5 := tgK_len (q_i τ 67) k (q_i τ 67 (4224 + 20 * b + p))
      have ef : pshL l.length (pshL 0 (q_i τ 41) l) (tgK (q_i τ 67) k (q_i τ 67 (4224 + 20 * b + p))) = pshL 0 (q_i τ 41) (l ++ tgK (q_i τ 67) k (q_i τ 67 (4224 + 20 * b + p))) := by rw [pshL_app, Nat.zero_add]
      rw [ef, ← List.length_append] at h3
      unfold allT at h
      refine ⟨fun q v8 h8 v9 h9 => ?_, fun q => ?_⟩
      · have q := (cC_1 (rwK_1 _ _ _)).mp q
        rw [if_pos q] at h
        rw [spO_1 q] at h3
        rw [h8, h9, show nI m + 1 = nI (m + 1) from nI_1 m, show nI p + 1 = nI (p + 1) from nI_1 p]
        exact ih (p + 1) (m + 1) _ τ3 (by omega) (by omega) (by rw [List.length_append]; omega) h3 h
      · have q : ¬ (rwK (q_i τ 67) k (q_i τ 67 (4224 + 20 * b + p))).1 = 1 := fun y => q ((cC_1 (rwK_1 _ _ _)).mpr y)
        rw [if_neg q] at h
        have h := h τ3 h3
        have c3 := rwK_1 (q_i τ 67) k (q_i τ 67 (4224 + 20 * b + p))
        refine ⟨fun z => ?_, fun z => ?_⟩
        · have z2 : ¬ (rwK (q_i τ 67) k (q_i τ 67 (4224 + 20 * b + p))).1 ≤ 1 := fun y => z (by rw [show (rwK (q_i τ 67) k (q_i τ 67 (4224 + 20 * b + p))).1 = 0 by omega]; rfl)
          unfold ansA at h
          rw [if_neg z2] at h
          exact h
        · have z2 : (rwK (q_i τ 67) k (q_i τ 67 (4224 + 20 * b + p))).1 = 0 := by
            rcases (by omega : (rwK (q_i τ 67) k (q_i τ 67 (4224 + 20 * b + p))).1 = 0 ∨ (rwK (q_i τ 67) k (q_i τ 67 (4224 + 20 * b + p))).1 = 2 ∨ (rwK (q_i τ 67) k (q_i τ 67 (4224 + 20 * b + p))).1 = 3) with y | y | y
            · exact y
            · rw [y] at z; exact absurd z (by decide)
            · rw [y] at z; exact absurd z (by decide)
          unfold ansA at h
          rw [if_pos (by show (rwK (q_i τ 67) k (q_i τ 67 (4224 + 20 * b + p))).1 ≤ 1; omega)] at h
          exact h
  exact ⟨w + 1, key w 0 0 [] τ1 (by omega) rfl (Nat.zero_le _) h1 h⟩
theorem r_all {τ τ1 : kT} {k b w : Nat} (hI : InvS (q_i τ 67)) (hk : k < N (q_i τ 67) 8523) (hb : b < N (q_i τ 67) 8524) (hw : q_i τ 67 (4212 + b) = nI w) (hw2 : w ≤ 20) (h1 : RQ τ τ1 0 (q_i τ 69) (-1)) {post : Int32 → kT → Prop}
    (h : ∀ τ3 τ4, RQ τ τ3 (allT (q_i τ 67) k b w 0 0 []).2.2.1.length (pshL 0 (q_i τ 69) (allT (q_i τ 67) k b w 0 0 []).2.2.1) (allT (q_i τ 67) k b w 0 0 []).2.2.2 → SR τ3 τ4 (fdC (allT (q_i τ 67) k b w 0 0 []).2.1) (fiC (allT (q_i τ 67) k b w 0 0 []).2.1) → post (ansA (allT (q_i τ 67) k b w 0 0 []).1 (allT (q_i τ 67) k b w 0 0 []).2.1) τ4) : ∃ m, L_X11_turnAll_46 (nI b) (nI k) (fun v25 v26 τ27 => (T_X11_well v25 τ27 (fun r28 τ29 => post r28 τ29))) post m (0 : Int32) (0 : Int32) τ1 := by
  have hb12 : b < 12 := Nat.lt_of_lt_of_le hb hI.bnd.2.2.1
  have eN : N (q_i τ 67) (4212 + b) = w := by unfold N; rw [hw, nI_clamp (by omega)]
  have key : ∀ n p m l τ2, p + n = w → m = p → l.length ≤ 5 * p → RQ τ τ2 l.length (pshL 0 (q_i τ 69) l) (-1) → (∀ τ3 τ4, RQ τ τ3 (allT (q_i τ 67) k b n p m l).2.2.1.length (pshL 0 (q_i τ 69) (allT (q_i τ 67) k b n p m l).2.2.1) (allT (q_i τ 67) k b n p m l).2.2.2 → SR τ3 τ4 (fdC (allT (q_i τ 67) k b n p m l).2.1) (fiC (allT (q_i τ 67) k b n p m l).2.1) → post (ansA (allT (q_i τ 67) k b n p m l).1 (allT (q_i τ 67) k b n p m l).2.1) τ4) → L_X11_turnAll_46 (nI b) (nI k) (fun v25 v26 τ27 => (T_X11_well v25 τ27 (fun r28 τ29 => post r28 τ29))) post (n + 1) (nI m) (nI p) τ2 := by
    intro n
    induction n with
    | zero =>
      intro p m l τ2 hp hm hl hT h
      unfold L_X11_turnAll_46
      refine ⟨4212 + b, nI_add 4212 b, by omega, br_t (by rw [hT.1 67 (by decide) (by decide), hw]; exact nI_le (by omega) (by omega)) (s_well (h τ2 _ hT (SR_0 τ2)))⟩
    | succ n ih =>
      intro p m l τ2 hp hm hl hT h
      have e67 : q_i τ2 67 = q_i τ 67 := hT.1 67 (by decide) (by decide)
      unfold L_X11_turnAll_46
      refine ⟨4212 + b, nI_add 4212 b, by omega, br_f (by rw [e67, hw]; exact nI_ge (by omega) (by omega)) (fun τ11 h11 => ⟨4224 + 20 * b + p, ev_3 4224 20 b p, by omega, ?_⟩)⟩
      have e11 : q_i τ11 67 = q_i τ 67 := by rw [h11]; exact e67
      have hR : RS τ11 τ11 l.length (pshL 0 (q_i τ 69) l) (-1) := ⟨fun _ _ _ => rfl, fun _ => rfl, fun _ _ _ => rfl, by rw [h11]; exact hT.2.2.2.1, by rw [h11]; exact hT.2.2.2.2.1, by rw [h11]; rfl⟩
      have hv := hI.2.2.2.2.2.2.2.2.2.2.2.2.2.2.1 b p hb (by rw [eN]; omega)
      rw [e11]
      refine r_tried (τ := τ11) (b := 1) (by rw [e11]; exact hI) hR (by omega) (by rw [e11]; exact hk) (by rw [e11]; exact hv) (fun τ3 h3 τ15 h15 => ?_)
      rw [e11, lt_1] at h3
      rw [e11]
      have hl5 := tgK_len (q_i τ 67) k (q_i τ 67 (4224 + 20 * b + p))
      have ef : pshL l.length (pshL 0 (q_i τ 69) l) (tgK (q_i τ 67) k (q_i τ 67 (4224 + 20 * b + p))) = pshL 0 (q_i τ 69) (l ++ tgK (q_i τ 67) k (q_i τ 67 (4224 + 20 * b + p))) := by rw [pshL_app, Nat.zero_add]
      rw [ef, ← List.length_append] at h3
      obtain ⟨t1, t2, t3, t4, t5, t6⟩ := h3
      rw [t6] at h15
      have hQ : RQ τ τ15 (l ++ tgK (q_i τ 67) k (q_i τ 67 (4224 + 20 * b + p))).length (pshL 0 (q_i τ 69) (l ++ tgK (q_i τ 67) k (q_i τ 67 (4224 + 20 * b + p)))) (spO 0 (rwK (q_i τ 67) k (q_i τ 67 (4224 + 20 * b + p))) (-1)) := by
        refine ⟨fun x n1 n2 => ?_, fun x => ?_, fun k n9 n7 n6 => ?_, ?_, ?_, ?_⟩
        · rw [h15, q_i_si, if_neg n1, t1 x n1 n2, h11, q_i_si, if_neg n1]; exact hT.1 x n1 n2
        · rw [h15]; show q_l τ3 x = _; rw [t2, h11]; exact hT.2.1 x
        · rw [h15, q_i_si, if_pos rfl, upd_at, if_neg n6, t3 k n9 n7, h11, q_i_si, if_pos rfl, upd_at, if_neg n7]; exact hT.2.2.1 k n9 n7 n6
        · rw [h15]; exact t4
        · rw [h15]; exact t5
        · rw [h15]; rfl
      unfold allT at h
      by_cases q : (rwK (q_i τ 67) k (q_i τ 67 (4224 + 20 * b + p))).1 = 1
      · rw [if_pos q] at h
        rw [spO_1 q] at hQ
        refine br_t (by rw [q]; decide) (bn_t (by rw [q]; decide) (fun v18 h18 v19 h19 => ?_))
        rw [h18, h19, show nI m + 1 = nI (m + 1) from nI_1 m, show nI p + 1 = nI (p + 1) from nI_1 p]
        exact ih (p + 1) (m + 1) _ τ15 (by omega) (by omega) (by rw [List.length_append]; omega) hQ h
      · rw [if_neg q] at h
        have c3 := rwK_1 (q_i τ 67) k (q_i τ 67 (4224 + 20 * b + p))
        rcases (by omega : (rwK (q_i τ 67) k (q_i τ 67 (4224 + 20 * b + p))).1 = 0 ∨ (rwK (q_i τ 67) k (q_i τ 67 (4224 + 20 * b + p))).1 = 2 ∨ (rwK (q_i τ 67) k (q_i τ 67 (4224 + 20 * b + p))).1 = 3) with y | y | y
        · have h := h τ15 (q_si τ15 66 4 0) hQ (by show SR _ _ (fdC (rwK _ _ _).1) (fiC (rwK _ _ _).1); rw [y]; exact SR_0 τ15)
          unfold ansA at h
          rw [if_pos (by show (rwK (q_i τ 67) k (q_i τ 67 (4224 + 20 * b + p))).1 ≤ 1; omega)] at h
          exact br_t (by rw [y]; decide) (bn_f (by rw [y]; decide) (s_well h))
        · have h := h τ15 _ hQ (by show SR _ _ (fdC (rwK _ _ _).1) (fiC (rwK _ _ _).1); rw [y]; exact SR_1 τ15 2)
          unfold ansA at h
          rw [if_neg (by show ¬ (rwK (q_i τ 67) k (q_i τ 67 (4224 + 20 * b + p))).1 ≤ 1; omega)] at h
          unfold T_X11_lacks
          have h : post (cC (rwK (q_i τ 67) k (q_i τ 67 (4224 + 20 * b + p))).1) _ := h
          rw [y] at h ⊢
          exact br_f (by decide) (bn_t (by decide) (s_met h))
        · have h := h τ15 _ hQ (by show SR _ _ (fdC (rwK _ _ _).1) (fiC (rwK _ _ _).1); rw [y]; exact SR_1 τ15 1)
          unfold ansA at h
          rw [if_neg (by show ¬ (rwK (q_i τ 67) k (q_i τ 67 (4224 + 20 * b + p))).1 ≤ 1; omega)] at h
          unfold T_X11_lacks
          have h : post (cC (rwK (q_i τ 67) k (q_i τ 67 (4224 + 20 * b + p))).1) _ := h
          rw [y] at h ⊢
          exact br_f (by decide) (bn_f (by decide) (s_met h))
  exact ⟨w + 1, key w 0 0 [] τ1 (by omega) rfl (Nat.zero_le _) h1 h⟩
theorem k_turnAll_op : K_turnAll J := by
  intro a b τ hJ
  obtain ⟨nk, hnk, k1, k2, k3⟩ := hJ.nk
  obtain ⟨nb, hnb, b1, b2, b3⟩ := hJ.nb
  unfold T_X10_turnAll T_X11_turnAll
  by_cases h : inn a nb
  · obtain ⟨c, hc, rfl⟩ := h
    have hcN : c < N (q_i τ 67) 8524 := by rw [b3]; exact hc
    obtain ⟨w, hw, l1, l2, l3⟩ := hJ.wid hcN
    refine s_X0_has_t b1 (by omega) hc (br_f (by decide) ?_)
    by_cases hb : inn b nk
    · obtain ⟨k, hk, rfl⟩ := hb
      have hkN : k < N (q_i τ 67) 8523 := by rw [k3]; exact hk
      obtain ⟨z1, z2, z3⟩ := allT_b (q_i τ 67) k c w 0 0 [] rfl (Nat.zero_le _)
      refine s_X5_has_t k1 (by omega) hk (bn_t (by decide) (c_begin (fun τ1 h1 => c_all hJ hkN hcN l2 hw h1 (fun τ2 h2 => s_ansA (by omega) z2 (fun τ3 h3 => ?_)))))
      have e67 : q_i τ3 67 = q_i τ 67 := by rw [h3.1 67 (by decide), h2.1 67 (by decide) (by decide) (by decide)]
      refine s_inN_t (n := nb) (by rw [e67]; exact b2) (by omega) hc (br_f (by decide) ?_)
      refine s_X11_isKey_t (by rw [e67]; exact k2) (by omega) hk (bn_t (by decide) (fun τ7 h7 τ8 h8 => ?_))
      refine r_all (τ := τ3) (w := w) (by rw [e67]; exact hJ.1) (by rw [e67]; exact hkN) (by rw [e67]; exact hcN) (by rw [e67]; exact l2) hw ⟨fun x n1 n2 => ?_, fun x => ?_, fun k n9 n7 n6 => ?_, ?_, ?_, ?_⟩ (fun τ9 τ10 h9 h10 => ?_)
      · rw [h8, h7, q_i_si, if_neg n1, q_i_si, if_neg n1]
      · rw [h8, h7]; rfl
      · rw [h8, h7, q_i_si, if_pos rfl, upd_at, if_neg n6, q_i_si, if_pos rfl, upd_at, if_neg n9]
      · rw [h8, h7]; rfl
      · rw [h8, h7]; rfl
      · rw [h8, h7]; rfl
      · rw [e67] at h9 h10 ⊢
        exact ⟨rfl, J_turnQ hJ h2 h3 h9 h10 (by omega) (fun i hi hi2 => pshL_agree _ 0 _ _ (fun i _ q => absurd q (by omega)) i hi (by rw [Nat.zero_add]; exact hi2))⟩
    · refine s_X5_has_f k1 (by omega) hb (bn_f rfl ?_)
      refine s_inN_t (n := nb) b2 (by omega) hc (br_f (by decide) ?_)
      exact s_X11_isKey_f k2 (by omega) hb (bn_f rfl ⟨rfl, hJ⟩)
  · refine s_X0_has_f b1 (by omega) h (br_t rfl ?_)
    exact s_inN_f (n := nb) b2 (by omega) h (br_t rfl ⟨rfl, hJ⟩)
