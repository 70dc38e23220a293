/-! ===== weight ===== -/
theorem nI_d10 {k : Nat} (hk : k < 2 ^ 30) : nI k / 10 = nI (k / 10) := by
  rw [i_eq, Int32.toInt_div, nI_toInt (by omega), nI_toInt (by omega)]
  have t : (10 : Int32).toInt = 10 := by decide
  rw [t, Int.tdiv_eq_ediv_of_nonneg (by omega), Int.bmod_eq_of_le] <;> omega
theorem nI_m10 {k : Nat} (hk : k < 2 ^ 30) : nI k - nI k / 10 * 10 = nI (k % 10) := by
  have e : nI (k / 10) * 10 = nI (k / 10 * 10) := pk_mul _ 10
  rw [nI_d10 hk, e, i_eq, pk_sub_toInt (by omega) (by omega), nI_toInt (by omega)]
  omega
def sumV (m : Nat) : Nat → Nat
  | 0 => 0
  | v + 1 => sumV m v + (if m.testBit v then v else 0)
theorem sumV_le (m : Nat) : ∀ v, sumV m v ≤ v * v
  | 0 => Nat.le_refl 0
  | v + 1 => by
    have h := sumV_le m v
    have e : (v + 1) * (v + 1) = v * v + v + v + 1 := by rw [Nat.add_mul, Nat.mul_add]; omega
    unfold sumV
    rw [e]
    split <;> omega
theorem sumV_0 : ∀ v, sumV 0 v = 0
  | 0 => rfl
  | v + 1 => by unfold sumV; rw [sumV_0 v, Nat.zero_testBit]; rfl
theorem s_sumOf {τ : kT} {m : Nat} (hm : m < 1024) {post : Int32 → kT → Prop} (h : post (nI (sumV m 10)) τ) : T_X9_sumOf (nI m) τ post := by
  have key : ∀ k v, v + k = 10 → L_X9_sumOf_4 (nI m) (fun v7 v8 τ9 => post v7 τ9) post (k + 1) (nI (sumV m v)) (nI v) τ := by
    intro k
    induction k with
    | zero =>
      intro v hv
      have hv : v = 10 := by omega
      subst hv
      unfold L_X9_sumOf_4
      exact br_t (by decide) h
    | succ k ih =>
      intro v hv
      have g := ih (v + 1) (by omega)
      unfold L_X9_sumOf_4
      refine br_f (nI_nlt (a := 9) (by omega) (by omega)) ⟨fun q v3 h3 => ?_, fun q v4 h4 v5 h5 => ?_⟩
      · rw [h3, show nI v + 1 = nI (v + 1) from nI_1 v]
        have e : sumV m (v + 1) = sumV m v := by
          rw [b_tst (by omega) (by omega)] at q
          conv => lhs; unfold sumV
          rw [q]; rfl
        rw [e] at g
        exact g
      · rw [h4, h5, show nI v + 1 = nI (v + 1) from nI_1 v, nI_add]
        have e : sumV m (v + 1) = sumV m v + v := by
          have q2 : m.testBit v = true := by
            cases z : m.testBit v with
            | true => rfl
            | false => exact absurd ((b_tst (by omega) (by omega)).mpr z) q
          conv => lhs; unfold sumV
          rw [q2]; rfl
        rw [e] at g
        exact g
  exact ⟨11, key 10 0 (by omega)⟩
def wC (s : Nat → Int32) (c : Nat) : Nat → Nat
  | 0 => 0
  | j + 1 => wC s c j + sumV (N s (400 + 18 * c + j)) 10
theorem wC_le (s : Nat → Int32) (c : Nat) : ∀ j, wC s c j ≤ 100 * j
  | 0 => Nat.le_refl 0
  | j + 1 => by
    have h := wC_le s c j
    have h2 := sumV_le (N s (400 + 18 * c + j)) 10
    unfold wC
    omega
def wB (s : Nat → Int32) (c : Nat) : Nat := if s c = 2 then 15 else 10
def w1 (s : Nat → Int32) (c : Nat) : Option Nat := if s (100 + c) = -1 then none else some (wB s c + wC s c (N s (100 + c)))
def wt (s : Nat → Int32) (c : Nat) : List Int32 := if s c = 2 then [6, 5] else [5]
def cW : Option Nat → Int32
  | none => -11
  | some w => nI w
def rW : Option Nat → Int32
  | none => -1
  | some w => nI w
def wS (s : Nat → Int32) (v : Int32) : Option Nat := if v = -1 then some 0 else w1 s v.toNatClampNeg
def wtS (s : Nat → Int32) (v : Int32) : List Int32 := if v = -1 then [] else wt s v.toNatClampNeg
theorem w1_le {s : Nat → Int32} (hI : InvS s) {c w : Nat} (hc : c < N s 8522) (h : w1 s c = some w) : w ≤ 2000 := by
  unfold w1 at h
  split at h
  · cases h
  · rcases hI.row hc with ⟨q, -⟩ | ⟨r, hr, q, e⟩
    · rename_i z; exact absurd q z
    · have h := Option.some.inj h
      have h2 := wC_le s c (N s (100 + c))
      have : wB s c ≤ 15 := by unfold wB; split <;> decide
      omega
theorem wS_le {s : Nat → Int32} (hI : InvS s) {v : Int32} {w : Nat} (hv : z_or v (fun x => x < N s 8522 ∧ s x ≠ 4)) (h : wS s v = some w) : w ≤ 2000 := by
  unfold wS at h
  split at h
  · have := Option.some.inj h; omega
  · rcases hv with q | ⟨c, ⟨hc, -⟩, q⟩
    · rename_i z; exact absurd q z
    · have := hI.bnd.1
      rw [q, nI_clamp (by omega)] at h
      exact w1_le hI hc h
/-! the class -/
theorem c_w1 {τ τ2 : kT} {n c : Nat} {f : Nat → Int32} {sp : Int32} (hJ : J τ) (hT : TS τ τ2 n f sp) (hn : n < 2 ^ 20) (hc : c < N (q_i τ 67) 8522) {post : Int32 → kT → Prop} (h : ∀ τ3, TS τ τ3 (n + (wt (q_i τ 67) c).length) (pshL n f (wt (q_i τ 67) c)) sp → post (cW (w1 (q_i τ 67) c)) τ3) : T_X9_weightOfSingle (nI c) τ2 post := by
  obtain ⟨nc, hnc, c1, c2, c3⟩ := hJ.nc
  have hc2 : c < nc := by rw [← c3]; exact hc
  have k1 : q_i τ 3 c = q_i τ 67 c := hJ.2.1.1 (1, c, 0) ⟨hc, rfl⟩
  have r1 : q_i τ 4 c = q_i τ 67 (100 + c) := hJ.2.1.1 (2, c, 0) ⟨hc, rfl⟩
  have tail : ∀ τ3, TS τ τ3 (n + (wt (q_i τ 67) c).length) (pshL n f (wt (q_i τ 67) c)) sp → T_X4_isOut (nI c) τ3 (fun r6 τ7 => ((r6 = 0 → (∃ m17 : Nat, L_X9_weightOfSingle_39 (nI c) (fun v18 v19 τ20 => post v18 τ20) post m17 (nI (wB (q_i τ 67) c)) (0 : Int32) τ7)) ∧ (¬ r6 = 0 → post (-11 : Int32) τ7))) := by
    intro τ3 h3
    have g : ∀ x, x < 39 → q_i τ3 x = q_i τ x := fun x hx => h3.1 x (by omega) (by omega) (by omega)
    have hp := h τ3 h3
    rcases hJ.1.row hc with ⟨z, z2⟩ | ⟨r, hr, z, z2⟩
    · unfold w1 at hp
      rw [if_pos z] at hp
      exact s_X4_isOut_t (n := nc) (by rw [g 2 (by decide)]; exact c1) hnc hc2 (by rw [g 3 (by decide), k1]; exact z2) (by rw [g 4 (by decide), r1]; exact z) (br_f (by decide) hp)
    · have e4 : q_i τ3 4 c = nI r := by rw [g 4 (by decide), r1]; exact z
      refine s_X4_isOut_f (n := nc) (by rw [g 2 (by decide)]; exact c1) hnc hc2 (by rw [e4]; exact nI_m1 (by omega)) (br_t rfl ⟨r + 1, ?_⟩)
      unfold w1 at hp
      rw [if_neg (by rw [z]; exact nI_m1 (by omega)), z2] at hp
      have key : ∀ m j, j + m = r → L_X9_weightOfSingle_39 (nI c) (fun v18 v19 τ20 => post v18 τ20) post (m + 1) (nI (wB (q_i τ 67) c + wC (q_i τ 67) c j)) (nI j) τ3 := by
        intro m
        induction m with
        | zero =>
          intro j hj
          have hj : j = r := by omega
          subst hj
          unfold L_X9_weightOfSingle_39
          refine ⟨c, rfl, by omega, br_t ?_ hp⟩
          rw [e4]; exact nI_le (Nat.le_refl _) (by omega)
        | succ m ih =>
          intro j hj
          obtain ⟨hm, m0, m1, m2, -⟩ := hJ.hts hc z hr (i := j) (by omega)
          have eN : N (q_i τ 67) (400 + 18 * c + j) = hm := by unfold N; rw [m2, nI_clamp (by omega)]
          unfold L_X9_weightOfSingle_39
          refine ⟨c, rfl, by omega, br_f (by rw [e4]; exact nI_ge (by omega) (by omega)) (s_heightsIn (n := nc) (r := r) (by rw [g 2 (by decide)]; exact c1) hnc hc2 e4 hr (by omega) ?_)⟩
          rw [g 5 (by decide), m1]
          refine s_sumOf (by omega) (fun v15 h15 v16 h16 => ?_)
          rw [h15, h16, show nI j + 1 = nI (j + 1) from nI_1 j, nI_add]
          have := ih (j + 1) (by omega)
          unfold wC at this
          rw [eN, ← Nat.add_assoc] at this
          exact this
      exact key r 0 (by omega)
  have g : ∀ x, x < 39 → q_i τ2 x = q_i τ x := fun x hx => hT.1 x (by omega) (by omega) (by omega)
  unfold T_X9_weightOfSingle
  refine s_X4_isCore (n := nc) (by rw [g 2 (by decide)]; exact c1) hnc hc2 (fun q => br_f (by decide) ?_) (fun q => br_t rfl ?_)
  · have q : q_i τ 67 c = 2 := by rw [← k1, ← g 3 (by decide)]; exact q
    have et : wt (q_i τ 67) c = [6, 5] := by unfold wt; rw [if_pos q]
    have eb : wB (q_i τ 67) c = 15 := by unfold wB; rw [if_pos q]
    refine c_add hT (by omega) (fun τ3 h3 v23 h23 => c_add h3 (by omega) (fun τ4 h4 => ?_))
    have h23 : v23 = nI 15 := by rw [h23]; decide
    rw [h23]
    rw [et, eb] at tail
    exact tail τ4 h4
  · have q : ¬ q_i τ 67 c = 2 := by rw [← k1, ← g 3 (by decide)]; exact q
    have et : wt (q_i τ 67) c = [5] := by unfold wt; rw [if_neg q]
    have eb : wB (q_i τ 67) c = 10 := by unfold wB; rw [if_neg q]
    refine c_add hT (by omega) (fun τ3 h3 => ?_)
    rw [et, eb] at tail
    exact tail τ3 h3
theorem c_wS {τ τ2 : kT} {n : Nat} {f : Nat → Int32} {sp v : Int32} (hJ : J τ) (hT : TS τ τ2 n f sp) (hn : n < 2 ^ 20) (hv : z_or v (fun x => x < N (q_i τ 67) 8522 ∧ q_i τ 67 x ≠ 4)) {post : Int32 → kT → Prop} (h : ∀ τ3, TS τ τ3 (n + (wtS (q_i τ 67) v).length) (pshL n f (wtS (q_i τ 67) v)) sp → post (cW (wS (q_i τ 67) v)) τ3) : T_X9_weightOfHalf v τ2 post := by
  unfold T_X9_weightOfHalf
  rcases hv with rfl | ⟨c, ⟨hc, -⟩, rfl⟩
  · exact bn_f rfl (h τ2 hT)
  · have hb := hJ.1.bnd.1
    have n1 : ¬ nI c = -1 := nI_m1 (by omega)
    have e1 : wtS (q_i τ 67) (nI c) = wt (q_i τ 67) c := by unfold wtS; rw [if_neg n1, nI_clamp (by omega)]
    have e2 : wS (q_i τ 67) (nI c) = w1 (q_i τ 67) c := by unfold wS; rw [if_neg n1, nI_clamp (by omega)]
    rw [e1, e2] at h
    exact bn_t n1 (c_w1 hJ hT hn hc h)
def wtK (s : Nat → Int32) (c : Nat) : List Int32 := if s c = 4 then 7 :: (wtS s (s (200 + c)) ++ (if (wS s (s (200 + c))).isSome then wtS s (s (300 + c)) else [])) else wt s c
def wK (s : Nat → Int32) (c : Nat) : Option Nat := if s c = 4 then (match wS s (s (200 + c)) with | none => none | some a => (match wS s (s (300 + c)) with | none => none | some b => some (a + b))) else w1 s c
theorem wt_len (s : Nat → Int32) (c : Nat) : (wt s c).length ≤ 2 := by
  unfold wt
  split <;> decide
theorem wtS_len (s : Nat → Int32) (v : Int32) : (wtS s v).length ≤ 2 := by
  unfold wtS
  split
  · decide
  · exact wt_len _ _
theorem wtK_len (s : Nat → Int32) (c : Nat) : (wtK s c).length ≤ 5 := by
  unfold wtK
  have h1 := wtS_len s (s (200 + c))
  have h2 := wtS_len s (s (300 + c))
  have h3 := wt_len s c
  split
  · split <;> simp <;> omega
  · omega
theorem c_wK {τ τ2 : kT} {c : Nat} {f : Nat → Int32} {sp : Int32} (hJ : J τ) (hT : TS τ τ2 0 f sp) (hc : c < N (q_i τ 67) 8522) {post : Int32 → kT → Prop} (h : ∀ τ3, TS τ τ3 (wtK (q_i τ 67) c).length (pshL 0 f (wtK (q_i τ 67) c)) sp → post (cW (wK (q_i τ 67) c)) τ3) : T_X9_weightOf (nI c) τ2 post := by
  obtain ⟨nc, hnc, c1, c2, c3⟩ := hJ.nc
  have hc2 : c < nc := by rw [← c3]; exact hc
  have k1 : q_i τ 3 c = q_i τ 67 c := hJ.2.1.1 (1, c, 0) ⟨hc, rfl⟩
  have g : ∀ {τ'} {n'} {f'} {sp'}, TS τ τ' n' f' sp' → ∀ x, x < 39 → q_i τ' x = q_i τ x := fun hT x hx => hT.1 x (by omega) (by omega) (by omega)
  unfold T_X9_weightOf
  by_cases q : q_i τ 67 c = 4
  · obtain ⟨-, -, -, -, p5, p6⟩ := hJ.1.2.2.2.2.2.2.2.1 c hc
    have f1 : q_i τ 6 c = q_i τ 67 (200 + c) := hJ.2.1.1 (3, c, 0) ⟨hc, rfl⟩
    have f2 : q_i τ 7 c = q_i τ 67 (300 + c) := hJ.2.1.1 (4, c, 0) ⟨hc, rfl⟩
    refine s_X4_isDouble_t (n := nc) (by rw [g hT 2 (by decide)]; exact c1) hnc hc2 (by rw [g hT 3 (by decide), k1]; exact q) (bn_t (by decide) (c_add hT (by omega) (fun τ5 h5 => ⟨c, rfl, by omega, ?_⟩)))
    rw [g h5 6 (by decide), f1]
    have l1 := wtS_len (q_i τ 67) (q_i τ 67 (200 + c))
    have l2 := wtS_len (q_i τ 67) (q_i τ 67 (300 + c))
    refine c_wS hJ h5 (by omega) p5 (fun τ8 h8 => ?_)
    cases e1 : wS (q_i τ 67) (q_i τ 67 (200 + c)) with
    | none =>
      have eT : wtK (q_i τ 67) c = 7 :: wtS (q_i τ 67) (q_i τ 67 (200 + c)) := by unfold wtK; rw [if_pos q, e1]; simp
      have eK : wK (q_i τ 67) c = none := by unfold wK; rw [if_pos q, e1]
      rw [eT, eK] at h
      refine br_f (by decide) (h τ8 ?_)
      rw [List.length_cons, Nat.add_comm]
      exact h8
    | some a =>
      have a9 := wS_le hJ.1 p5 e1
      refine br_t (nI_pos' (by omega)) ⟨c, rfl, by omega, ?_⟩
      rw [g h8 7 (by decide), f2]
      refine c_wS hJ h8 (by omega) p6 (fun τ12 h12 => ?_)
      have eT : wtK (q_i τ 67) c = 7 :: (wtS (q_i τ 67) (q_i τ 67 (200 + c)) ++ wtS (q_i τ 67) (q_i τ 67 (300 + c))) := by unfold wtK; rw [if_pos q, e1]; simp
      rw [eT] at h
      have h12 : TS τ τ12 (7 :: (wtS (q_i τ 67) (q_i τ 67 (200 + c)) ++ wtS (q_i τ 67) (q_i τ 67 (300 + c)))).length (pshL 0 f (7 :: (wtS (q_i τ 67) (q_i τ 67 (200 + c)) ++ wtS (q_i τ 67) (q_i τ 67 (300 + c))))) sp := by
        rw [List.length_cons, List.length_append, show pshL 0 f (7 :: (wtS (q_i τ 67) (q_i τ 67 (200 + c)) ++ wtS (q_i τ 67) (q_i τ 67 (300 + c)))) = pshL 1 (psh 0 f 7) (wtS (q_i τ 67) (q_i τ 67 (200 + c)) ++ wtS (q_i τ 67) (q_i τ 67 (300 + c))) from rfl, pshL_app, Nat.add_comm _ 1, ← Nat.add_assoc]
        exact h12
      have hp := h τ12 h12
      cases e2 : wS (q_i τ 67) (q_i τ 67 (300 + c)) with
      | none =>
        have eK : wK (q_i τ 67) c = none := by unfold wK; rw [if_pos q, e1, e2]
        rw [eK] at hp
        exact br_f (by decide) hp
      | some b =>
        have b9 := wS_le hJ.1 p6 e2
        have eK : wK (q_i τ 67) c = some (a + b) := by unfold wK; rw [if_pos q, e1, e2]
        rw [eK] at hp
        refine br_t (nI_pos' (by omega)) ?_
        show post (nI a + nI b) τ12
        rw [nI_add]
        exact hp
  · refine s_X4_isDouble_f (n := nc) (by rw [g hT 2 (by decide)]; exact c1) hnc hc2 (by rw [g hT 3 (by decide), k1]; exact q) (bn_f rfl ?_)
    have eT : wtK (q_i τ 67) c = wt (q_i τ 67) c := by unfold wtK; rw [if_neg q]
    have eK : wK (q_i τ 67) c = w1 (q_i τ 67) c := by unfold wK; rw [if_neg q]
    rw [eT, eK] at h
    refine c_w1 hJ hT (by omega) hc (fun τ3 h3 => h τ3 ?_)
    rw [Nat.zero_add] at h3
    exact h3
/-! the reference -/
def wR (s : Nat → Int32) (c : Nat) : Nat → Nat
  | 0 => 0
  | k + 1 => wR s c k + (if (N s (400 + 18 * c + k / 10)).testBit (k % 10) then k % 10 else 0)
theorem wR_le (s : Nat → Int32) (c : Nat) : ∀ k, wR s c k ≤ 10 * k
  | 0 => Nat.le_refl 0
  | k + 1 => by
    have h := wR_le s c k
    unfold wR
    split <;> omega
theorem wR_v (s : Nat → Int32) (c j : Nat) : ∀ v, v ≤ 10 → wR s c (10 * j) = wC s c j → wR s c (10 * j + v) = wC s c j + sumV (N s (400 + 18 * c + j)) v
  | 0, _, h => h
  | v + 1, hv, h => by
    have ih := wR_v s c j v (by omega) h
    show wR s c (10 * j + v + 1) = _
    unfold wR sumV
    rw [ih, show (10 * j + v) / 10 = j by omega, show (10 * j + v) % 10 = v by omega, Nat.add_assoc]
theorem wR_j (s : Nat → Int32) (c : Nat) : ∀ j, wR s c (10 * j) = wC s c j
  | 0 => rfl
  | j + 1 => by
    have := wR_v s c j 10 (Nat.le_refl _) (wR_j s c j)
    rw [show 10 * (j + 1) = 10 * j + 10 by omega, this]
    rfl
theorem wC_r {s : Nat → Int32} {c r : Nat} (hz : ∀ j, r ≤ j → j < 18 → s (400 + 18 * c + j) = 0) : ∀ d, r + d ≤ 18 → wC s c (r + d) = wC s c r
  | 0, _ => rfl
  | d + 1, h => by
    show wC s c (r + d) + sumV (N s (400 + 18 * c + (r + d))) 10 = _
    have e : N s (400 + 18 * c + (r + d)) = 0 := by unfold N; rw [hz (r + d) (by omega) (by omega)]; rfl
    rw [wC_r hz d (by omega), e, sumV_0, Nat.add_zero]
theorem w1_R {s : Nat → Int32} (hI : InvS s) {c : Nat} (hc : c < N s 8522) : w1 s c = if s (100 + c) = -1 then none else some (wB s c + wR s c 180) := by
  unfold w1
  by_cases q : s (100 + c) = -1
  · rw [if_pos q, if_pos q]
  · rw [if_neg q, if_neg q]
    rcases hI.row hc with ⟨z, -⟩ | ⟨r, hr, z, e⟩
    · exact absurd z q
    · rw [show (180 : Nat) = 10 * 18 from rfl, wR_j, e]
      have hz : ∀ j, r ≤ j → j < 18 → s (400 + 18 * c + j) = 0 := fun j h1 h2 => (hI.2.2.2.2.2.2.2.2.1 c j hc h2).2.2.2 (by rw [e]; exact h1)
      have := wC_r hz (18 - r) (by omega)
      rw [show r + (18 - r) = 18 by omega] at this
      rw [this]
theorem r_w1 {τ τ2 : kT} {n c : Nat} {f : Nat → Int32} {sp : Int32} (hI : InvS (q_i τ 67)) (hT : RS τ τ2 n f sp) (hn : n < 2 ^ 20) (hc : c < N (q_i τ 67) 8522) (h4 : q_i τ 67 c ≠ 4) (e : Nat) {post : Int32 → kT → Prop} (h : ∀ τ3, RS τ τ3 (n + (wt (q_i τ 67) c).length) (pshL n f (wt (q_i τ 67) c)) sp → post (rW (w1 (q_i τ 67) c)) τ3) : T_X11_weigh (e + 1) (nI c) τ2 post := by
  have hb := hI.bnd.1
  have hc100 : c < 100 := by omega
  have e67 : ∀ {τ'} {n'} {f'} {sp'}, RS τ τ' n' f' sp' → q_i τ' 67 = q_i τ 67 := fun hT => hT.1 67 (by decide) (by decide)
  have tail : ∀ (v3 : Int32) τ3, RS τ τ3 (n + (wt (q_i τ 67) c).length) (pshL n f (wt (q_i τ 67) c)) sp → ∃ m13 : Nat, L_X11_weigh_119 (nI c) v3 (fun v14 v15 τ16 => (∃ j17 : Nat, ((100 : Int32) + nI c) = nI j17 ∧ j17 < 8530 ∧ ((0 ≤ (q_i τ16 67 j17) → post v14 τ16) ∧ (¬ 0 ≤ (q_i τ16 67 j17) → post (-1 : Int32) τ16)))) post m13 (nI (wB (q_i τ 67) c)) (0 : Int32) τ3 := by
    intro v3 τ3 h3
    refine ⟨181, ?_⟩
    have hp := h τ3 h3
    rw [w1_R hI hc] at hp
    have b15 : wB (q_i τ 67) c ≤ 15 := by unfold wB; split <;> decide
    have key : ∀ m k, k + m = 180 → L_X11_weigh_119 (nI c) v3 (fun v14 v15 τ16 => (∃ j17 : Nat, ((100 : Int32) + nI c) = nI j17 ∧ j17 < 8530 ∧ ((0 ≤ (q_i τ16 67 j17) → post v14 τ16) ∧ (¬ 0 ≤ (q_i τ16 67 j17) → post (-1 : Int32) τ16)))) post (m + 1) (nI (wB (q_i τ 67) c + wR (q_i τ 67) c k)) (nI k) τ3 := by
      intro m
      induction m with
      | zero =>
        intro k hk
        have hk : k = 180 := by omega
        subst hk
        unfold L_X11_weigh_119
        refine br_t (by decide) ⟨100 + c, nI_add 100 c, by omega, ?_⟩
        rw [e67 h3]
        rcases hI.row hc with ⟨z, -⟩ | ⟨r, hr, z, z2⟩
        · rw [if_pos z] at hp
          exact br_f (by rw [z]; decide) hp
        · rw [if_neg (by rw [z]; exact nI_m1 (by omega))] at hp
          exact br_t (by rw [z]; exact nI_pos' (by omega)) hp
      | succ m ih =>
        intro k hk
        obtain ⟨hm, m0, m1, m2⟩ := hI.hts hc (i := k / 10) (by omega)
        unfold L_X11_weigh_119
        rw [nI_d10 (by omega)]
        refine br_f (nI_ge (b := 180) (by omega) (by decide)) ⟨400 + 18 * c + k / 10, ev_3 400 18 c (k / 10), by omega, fun v11 h11 v12 h12 => ?_⟩
        have e10 : nI k - nI (k / 10) * 10 = nI (k % 10) := by rw [← nI_d10 (by omega)]; exact nI_m10 (by omega)
        rw [e67 h3, m1, e10, b_shr (by omega) (by omega), show (1 : Int32) = nI 1 from rfl, b_and, b_bit] at h11
        rw [h12, show nI k + 1 = nI (k + 1) from nI_1 k]
        have g := ih (k + 1) (by omega)
        have e11 : v11 = nI (wB (q_i τ 67) c + wR (q_i τ 67) c (k + 1)) := by
          rw [h11, show nI (hm.testBit (k % 10)).toNat * nI (k % 10) = nI ((hm.testBit (k % 10)).toNat * (k % 10)) from pk_mul _ _, nI_add]
          congr 1
          show _ = wB (q_i τ 67) c + (wR (q_i τ 67) c k + (if (N (q_i τ 67) (400 + 18 * c + k / 10)).testBit (k % 10) then k % 10 else 0))
          rw [m2, Nat.add_assoc]
          cases hm.testBit (k % 10) <;> simp
        rw [e11]
        exact g
    exact key 180 0 (by omega)
  unfold T_X11_weigh
  refine bn_t (nI_m1 (by omega)) ⟨c, ev_0a c, by omega, fun v3 h3 => ?_⟩
  rw [e67 hT] at h3
  refine bn_t (by rw [h3]; exact h4) ?_
  have one : ∀ w : Int32, lt 1 [w] = [w] := fun w => if_neg (by decide)
  by_cases q : q_i τ 67 c = 2
  · have et : wt (q_i τ 67) c = [6, 5] := by unfold wt; rw [if_pos q]
    have eb : wB (q_i τ 67) c = 15 := by unfold wB; rw [if_pos q]
    refine bn_f (by rw [h3]; exact q) (r_note hT (by omega) (fun τ26 h26 => r_note h26 (by rw [one]; simp; omega) (fun τ28 h28 => bn_f (by rw [h3]; exact q) ?_)))
    rw [et, eb] at tail
    refine tail v3 τ28 ?_
    rw [one, one] at h28
    exact h28
  · have et : wt (q_i τ 67) c = [5] := by unfold wt; rw [if_neg q]
    have eb : wB (q_i τ 67) c = 10 := by unfold wB; rw [if_neg q]
    refine bn_t (by rw [h3]; exact q) (r_note hT (by omega) (fun τ28 h28 => bn_t (by rw [h3]; exact q) ?_))
    rw [et, eb] at tail
    refine tail v3 τ28 ?_
    rw [one] at h28
    exact h28
theorem r_wS {τ τ2 : kT} {n : Nat} {f : Nat → Int32} {sp v : Int32} (hI : InvS (q_i τ 67)) (hT : RS τ τ2 n f sp) (hn : n < 2 ^ 20) (hv : z_or v (fun x => x < N (q_i τ 67) 8522 ∧ q_i τ 67 x ≠ 4)) (e : Nat) {post : Int32 → kT → Prop} (h : ∀ τ3, RS τ τ3 (n + (wtS (q_i τ 67) v).length) (pshL n f (wtS (q_i τ 67) v)) sp → post (rW (wS (q_i τ 67) v)) τ3) : T_X11_weigh (e + 1) v τ2 post := by
  rcases hv with rfl | ⟨c, ⟨hc, n4⟩, rfl⟩
  · unfold T_X11_weigh
    exact bn_f rfl (h τ2 hT)
  · have hb := hI.bnd.1
    have n1 : ¬ nI c = -1 := nI_m1 (by omega)
    have e1 : wtS (q_i τ 67) (nI c) = wt (q_i τ 67) c := by unfold wtS; rw [if_neg n1, nI_clamp (by omega)]
    have e2 : wS (q_i τ 67) (nI c) = w1 (q_i τ 67) c := by unfold wS; rw [if_neg n1, nI_clamp (by omega)]
    rw [e1, e2] at h
    exact r_w1 hI hT hn hc n4 e h
theorem r_wK {τ τ2 : kT} {c : Nat} {f : Nat → Int32} {sp : Int32} (hI : InvS (q_i τ 67)) (hT : RS τ τ2 0 f sp) (hc : c < N (q_i τ 67) 8522) {post : Int32 → kT → Prop} (h : ∀ τ3, RS τ τ3 (wtK (q_i τ 67) c).length (pshL 0 f (wtK (q_i τ 67) c)) sp → post (rW (wK (q_i τ 67) c)) τ3) : T_X11_weigh 2 (nI c) τ2 post := by
  have hb := hI.bnd.1
  have hc100 : c < 100 := by omega
  have e67 : ∀ {τ'} {n'} {f'} {sp'}, RS τ τ' n' f' sp' → q_i τ' 67 = q_i τ 67 := fun hT => hT.1 67 (by decide) (by decide)
  have one : ∀ w : Int32, lt 1 [w] = [w] := fun w => if_neg (by decide)
  by_cases q : q_i τ 67 c = 4
  · obtain ⟨-, -, -, -, p5, p6⟩ := hI.2.2.2.2.2.2.2.1 c hc
    unfold T_X11_weigh
    refine bn_t (nI_m1 (by omega)) ⟨c, ev_0a c, by omega, fun v3 h3 => ?_⟩
    rw [e67 hT] at h3
    refine bn_f (by rw [h3]; exact q) (r_note hT (by omega) (fun τ43 h43 => ⟨200 + c, nI_add 200 c, by omega, ?_⟩))
    rw [one] at h43
    rw [e67 h43]
    have l1 := wtS_len (q_i τ 67) (q_i τ 67 (200 + c))
    have l2 := wtS_len (q_i τ 67) (q_i τ 67 (300 + c))
    refine r_wS hI h43 (by simp) p5 0 (fun τ8 h8 => ?_)
    cases e1 : wS (q_i τ 67) (q_i τ 67 (200 + c)) with
    | none =>
      have eT : wtK (q_i τ 67) c = 7 :: wtS (q_i τ 67) (q_i τ 67 (200 + c)) := by unfold wtK; rw [if_pos q, e1]; simp
      have eK : wK (q_i τ 67) c = none := by unfold wK; rw [if_pos q, e1]
      rw [eT, eK] at h
      refine br_f (by decide) (br_t (by decide) (h τ8 ?_))
      rw [List.length_cons, Nat.add_comm]
      exact h8
    | some a =>
      have a9 := wS_le hI p5 e1
      refine br_t (nI_pos' (by omega)) ⟨300 + c, nI_add 300 c, by omega, ?_⟩
      rw [e67 h8]
      refine r_wS hI h8 (by simp; omega) p6 0 (fun τ12 h12 => ?_)
      have eT : wtK (q_i τ 67) c = 7 :: (wtS (q_i τ 67) (q_i τ 67 (200 + c)) ++ wtS (q_i τ 67) (q_i τ 67 (300 + c))) := by unfold wtK; rw [if_pos q, e1]; simp
      rw [eT] at h
      have h12 : RS τ τ12 (7 :: (wtS (q_i τ 67) (q_i τ 67 (200 + c)) ++ wtS (q_i τ 67) (q_i τ 67 (300 + c)))).length (pshL 0 f (7 :: (wtS (q_i τ 67) (q_i τ 67 (200 + c)) ++ wtS (q_i τ 67) (q_i τ 67 (300 + c))))) sp := by
        rw [List.length_cons, List.length_append, show pshL 0 f (7 :: (wtS (q_i τ 67) (q_i τ 67 (200 + c)) ++ wtS (q_i τ 67) (q_i τ 67 (300 + c)))) = pshL 1 (psh 0 f 7) (wtS (q_i τ 67) (q_i τ 67 (200 + c)) ++ wtS (q_i τ 67) (q_i τ 67 (300 + c))) from rfl, pshL_app, Nat.add_comm _ 1, ← Nat.add_assoc]
        exact h12
      have hp := h τ12 h12
      refine br_f (nI_pos (by omega)) ?_
      cases e2 : wS (q_i τ 67) (q_i τ 67 (300 + c)) with
      | none =>
        have eK : wK (q_i τ 67) c = none := by unfold wK; rw [if_pos q, e1, e2]
        rw [eK] at hp
        exact br_f (by decide) hp
      | some b =>
        have b9 := wS_le hI p6 e2
        have eK : wK (q_i τ 67) c = some (a + b) := by unfold wK; rw [if_pos q, e1, e2]
        rw [eK] at hp
        refine br_t (nI_pos' (by omega)) ?_
        show post (nI a + nI b) τ12
        rw [nI_add]
        exact hp
  · have eT : wtK (q_i τ 67) c = wt (q_i τ 67) c := by unfold wtK; rw [if_neg q]
    have eK : wK (q_i τ 67) c = w1 (q_i τ 67) c := by unfold wK; rw [if_neg q]
    rw [eT, eK] at h
    refine r_w1 hI hT (by omega) hc q 1 (fun τ3 h3 => h τ3 ?_)
    rw [Nat.zero_add] at h3
    exact h3
theorem J_weigh {τ τ1 τ2 τ3 τ5 : kT} {n : Nat} {f g : Nat → Int32} {sp' a b : Int32} (hJ : J τ) (h1 : TS τ τ1 n f (q_i τ 39 1)) (h2 : SC τ1 τ2 a b) (h3 : RS τ2 τ3 n g sp') (h5 : SR τ3 τ5 a b) (hn : n ≤ 1000) (hfg : ∀ i, i < 40 → i < n → g i = f i) : J τ5 := by
  obtain ⟨t1, t2, t3, t4, t5⟩ := h1
  obtain ⟨c1, c2, c3, c4, c5⟩ := h2
  obtain ⟨r1, r2, r3, r4, r5, r6⟩ := h3
  obtain ⟨u1, u2, u3, u4, u5⟩ := h5
  have g0 : ∀ x, x ≠ 66 → x ≠ 69 → x ≠ 0 → q_i τ5 x = q_i τ1 x := fun x n1 n2 n3 => by rw [u1 x n1, r1 x n1 n2, c1 x n3]
  have g1 : ∀ x, x ≠ 66 → x ≠ 69 → x ≠ 0 → x ≠ 39 → x ≠ 40 → x ≠ 41 → q_i τ5 x = q_i τ x := fun x n1 n2 n3 n4 n5 n6 => by rw [g0 x n1 n2 n3, t1 x n4 n5 n6]
  have gl : ∀ x, q_l τ5 x = q_l τ x := fun x => by rw [u2, r2, c2, t2]
  have g00 : ∀ k, q_i τ5 0 k = q_i τ2 0 k := fun k => by rw [u1 0 (by decide), r1 0 (by decide) (by decide)]
  have g66 : ∀ k, k ≠ 4 → k ≠ 5 → k ≠ 7 → k ≠ 9 → q_i τ5 66 k = q_i τ 66 k := fun k n4 n5 n7 n9 => by rw [u3 k n4 n5, r3 k n9 n7, c1 66 (by decide), t1 66 (by decide) (by decide) (by decide)]
  have g0k : ∀ k, k ≠ 4 → k ≠ 5 → q_i τ5 0 k = q_i τ 0 k := fun k n4 n5 => by rw [g00 k, c3 k n4 n5, t1 0 (by decide) (by decide) (by decide)]
  obtain ⟨-, -, -, -, -, ⟨s3, s4, s5⟩, a7, a8, a9, -⟩ := id hJ
  have e40 : q_i τ5 40 1 = nI n := by rw [g0 40 (by decide) (by decide) (by decide)]; exact t3
  have eN : N (q_i τ5 40) 1 = n := by unfold N; rw [e40, nI_clamp (by omega)]
  refine hJ.keep ⟨fun x x1 x2 => g1 x (by omega) (by omega) (by omega) (by omega) (by omega) (by omega), fun x _ _ => gl x, g1 67 (by decide) (by decide) (by decide) (by decide) (by decide) (by decide), g1 68 (by decide) (by decide) (by decide) (by decide) (by decide) (by decide)⟩ ⟨g0k 2 (by decide) (by decide), g66 2 (by decide) (by decide) (by decide) (by decide)⟩ ⟨?_, ?_, ?_⟩ ?_ ?_ ⟨?_, ?_, ?_, ?_⟩ (by rw [g1 65 (by decide) (by decide) (by decide) (by decide) (by decide) (by decide)])
  · rw [g66 3 (by decide) (by decide) (by decide) (by decide), g0k 3 (by decide) (by decide)]; exact s3
  · rw [u4, g00, c4]
  · rw [u5, g00, c5, r3 5 (by decide) (by decide), c1 66 (by decide), t1 66 (by decide) (by decide) (by decide), t1 0 (by decide) (by decide) (by decide), s5]
  · rw [g66 6 (by decide) (by decide) (by decide) (by decide), g0 39 (by decide) (by decide) (by decide), t5]; exact a7
  · rw [g66 10 (by decide) (by decide) (by decide) (by decide), g1 45 (by decide) (by decide) (by decide) (by decide) (by decide) (by decide)]; exact a8
  · rw [u3 9 (by decide) (by decide), r4, e40]
  · rw [eN]; exact e40
  · rw [eN]; exact hn
  · intro i h40 hi
    rw [eN] at hi
    rw [u1 69 (by decide), r5, g0 41 (by decide) (by decide) (by decide), t4]
    exact hfg i h40 hi
theorem wK_le {s : Nat → Int32} (hI : InvS s) {c w : Nat} (hc : c < N s 8522) (h : wK s c = some w) : w ≤ 4000 := by
  obtain ⟨-, -, -, -, p5, p6⟩ := hI.2.2.2.2.2.2.2.1 c hc
  unfold wK at h
  split at h
  · cases e1 : wS s (s (200 + c)) with
    | none => rw [e1] at h; cases h
    | some a =>
      cases e2 : wS s (s (300 + c)) with
      | none => rw [e1, e2] at h; cases h
      | some b =>
        rw [e1, e2] at h
        have := wS_le hI p5 e1
        have := wS_le hI p6 e2
        have := Option.some.inj h
        omega
  · have := w1_le hI hc h
    omega
theorem k_weight_op : K_weight J := by
  intro a τ hJ
  obtain ⟨nc, hnc, c1, c2, c3⟩ := hJ.nc
  unfold T_X10_weight
  by_cases hc : inn a nc
  case neg =>
    refine s_X4_has_f c1 (by omega) hc (bn_f rfl ?_)
    unfold T_X11_weight
    exact s_X11_isCylinder_f c2 (by omega) hc (bn_f rfl ⟨rfl, hJ⟩)
  obtain ⟨c, hc, rfl⟩ := hc
  have hc3 : c < N (q_i τ 67) 8522 := by rw [c3]; exact hc
  refine s_X4_has_t c1 (by omega) hc (bn_t (by decide) (fun τ1 h1 => ?_))
  have hT0 : TS τ τ1 0 (q_i τ 41) (q_i τ 39 1) := ⟨fun x n1 n2 n3 => by rw [h1, q_i_si, if_neg n2], fun x => by rw [h1]; rfl, by rw [h1]; rfl, by rw [h1]; rfl, by rw [h1]; rfl⟩
  refine c_wK hJ hT0 hc3 (fun τ2 h2 => ?_)
  have fin : ∀ (o : Option Nat) (τ3 : kT) (a b : Int32), o = wK (q_i τ 67) c → SC τ2 τ3 a b → (∀ τ5 τ6, SR τ5 τ6 a b → (∃ g sp, RS τ3 τ5 (wtK (q_i τ 67) c).length g sp ∧ ∀ i, i < 40 → i < (wtK (q_i τ 67) c).length → g i = pshL 0 (q_i τ 41) (wtK (q_i τ 67) c) i) → J τ6) := by
    intro o τ3 a b ho hS τ5 τ6 h6 ⟨g, sp, h5, hg⟩
    have := wtK_len (q_i τ 67) c
    exact J_weigh hJ h2 hS h5 h6 (by omega) hg
  have ref : ∀ (τ3 : kT) (a b : Int32) (post : Int32 → kT → Prop), SC τ2 τ3 a b → (∀ τ5 g sp, RS τ3 τ5 (wtK (q_i τ 67) c).length g sp → (∀ i, i < 40 → i < (wtK (q_i τ 67) c).length → g i = pshL 0 (q_i τ 41) (wtK (q_i τ 67) c) i) → ((0 ≤ rW (wK (q_i τ 67) c) → (T_X11_well (rW (wK (q_i τ 67) c)) τ5 post)) ∧ (¬ 0 ≤ rW (wK (q_i τ 67) c) → (T_X11_met (1 : Int32) τ5 post)))) → T_X11_weight (nI c) τ3 post := by
    intro τ3 a b post hS hh
    have e67 : q_i τ3 67 = q_i τ 67 := by rw [hS.1 67 (by decide), h2.1 67 (by decide) (by decide) (by decide)]
    unfold T_X11_weight
    refine s_X11_isCylinder_t (n := nc) (by rw [e67]; exact c2) (by omega) hc (bn_t (by decide) (fun τ4 h4 => ?_))
    have hR0 : RS τ3 τ4 0 (q_i τ3 69) (q_i τ3 66 7) := ⟨fun x n1 n2 => by rw [h4, q_i_si, if_neg n1], fun x => by rw [h4]; rfl, fun k n1 n2 => by rw [h4, q_i_si, if_pos rfl, upd_at, if_neg n1], by rw [h4]; rfl, by rw [h4]; rfl, by rw [h4]; rfl⟩
    refine r_wK (by rw [e67]; exact hJ.1) hR0 (by rw [e67]; exact hc3) (fun τ5 h5 => ?_)
    rw [e67] at h5 ⊢
    refine hh τ5 _ _ h5 ?_
    intro i h40 hi
    have := pshL_agree (wtK (q_i τ 67) c) 0 (q_i τ3 69) (q_i τ 41) (fun i _ y => absurd y (by omega)) i h40 (by rw [Nat.zero_add]; exact hi)
    exact this
  cases e : wK (q_i τ 67) c with
  | none =>
    refine s_settle_met (f := 1) ⟨by decide, by decide⟩ ?_
    refine ref _ 1 1 _ (SC_1 τ2 1) (fun τ5 g sp h5 hg => ?_)
    rw [e]
    exact br_f (by decide) (s_met ⟨by decide, fin _ _ 1 1 e.symm (SC_1 τ2 1) τ5 _ (SR_1 τ5 1) ⟨g, sp, h5, hg⟩⟩)
  | some w =>
    have := wK_le hJ.1 hc3 e
    refine s_settle_n (n := w) (by omega) ?_
    refine ref _ 0 0 _ (SC_0 τ2) (fun τ5 g sp h5 hg => ?_)
    rw [e]
    exact br_t (nI_pos' (by omega)) (s_well ⟨rfl, fin _ _ 0 0 e.symm (SC_0 τ2) τ5 _ (SR_0 τ5) ⟨g, sp, h5, hg⟩⟩)
