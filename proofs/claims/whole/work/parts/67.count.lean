/-! ===== count ===== -/
def okS (s : Nat → Int32) (c n : Nat) : Prop := s c ≠ 3 ∧ ∀ j, j < N s (100 + c) → s (400 + 18 * c + j) ≠ 0 → j < n
def narK (f : Nat → Nat) (s : Nat → Int32) (c k : Nat) : Nat → Nat := fun i => if i < k ∧ s (400 + 18 * c + i) ≠ 0 then f i &&& N s (400 + 18 * c + i) else f i
def nar (f : Nat → Nat) (s : Nat → Int32) (c : Nat) : Nat → Nat := narK f s c (N s (100 + c))
theorem narK_0 (f : Nat → Nat) (s : Nat → Int32) (c : Nat) : narK f s c 0 = f := by
  funext i
  unfold narK
  rw [if_neg (fun y => absurd y.1 (by omega))]
theorem narK_z {f : Nat → Nat} {s : Nat → Int32} {c k : Nat} (h : s (400 + 18 * c + k) = 0) : narK f s c (k + 1) = narK f s c k := by
  funext i
  unfold narK
  by_cases e : i = k
  · rw [e, if_neg (fun y => y.2 h), if_neg (fun y => y.2 h)]
  · by_cases q : i < k ∧ s (400 + 18 * c + i) ≠ 0
    · rw [if_pos q, if_pos ⟨by omega, q.2⟩]
    · rw [if_neg q, if_neg (fun y => q ⟨by omega, y.2⟩)]
theorem narK_1 {f : Nat → Nat} {s : Nat → Int32} {c k : Nat} (h : s (400 + 18 * c + k) ≠ 0) (i : Nat) : narK f s c (k + 1) i = if i = k then narK f s c k k &&& N s (400 + 18 * c + k) else narK f s c k i := by
  unfold narK
  by_cases e : i = k
  · rw [if_pos e, e, if_pos ⟨by omega, h⟩, if_neg (fun y => absurd y.1 (by omega))]
  · rw [if_neg e]
    by_cases q : i < k ∧ s (400 + 18 * c + i) ≠ 0
    · rw [if_pos q, if_pos ⟨by omega, q.2⟩]
    · rw [if_neg q, if_neg (fun y => q ⟨by omega, y.2⟩)]
theorem nar_nar (f : Nat → Nat) (s : Nat → Int32) (c : Nat) : nar (nar f s c) s c = nar f s c := by
  funext i
  unfold nar narK
  by_cases q : i < N s (100 + c) ∧ s (400 + 18 * c + i) ≠ 0
  · rw [if_pos q, if_pos q, Nat.and_assoc, Nat.and_self]
  · rw [if_neg q, if_neg q]
theorem nar_lt {f : Nat → Nat} (s : Nat → Int32) (c : Nat) {m : Nat} (hf : ∀ i, f i < 2 ^ m) : ∀ i, nar f s c i < 2 ^ m := by
  intro i
  unfold nar narK
  split
  · exact Nat.lt_of_le_of_lt Nat.and_le_left (hf i)
  · exact hf i
/-! the class narrows -/
def CT (τ τ2 : kT) : Prop := (∀ x, x ≠ 59 → x ≠ 60 → q_i τ2 x = q_i τ x) ∧ (∀ x, x ≠ 61 → x ≠ 62 → q_l τ2 x = q_l τ x)
theorem CT.refl (τ : kT) : CT τ τ := ⟨fun _ _ _ => rfl, fun _ _ _ => rfl⟩
theorem CT.si {τ τ2 : kT} (h : CT τ τ2) (k : Nat) (v : Int32) : CT τ (q_si τ2 60 k v) := ⟨fun x n1 n2 => by rw [q_i_si, if_neg n2]; exact h.1 x n1 n2, fun x n1 n2 => h.2 x n1 n2⟩
theorem c_narrow {τ0 τ : kT} {c r n : Nat} {f : Nat → Nat} (hJ : J τ0) (hT : CT τ0 τ) (hc : c < N (q_i τ0 67) 8522) (hr : q_i τ0 67 (100 + c) = nI r) (hr2 : r ≤ 18) (hn : n ≤ 18) (hf : ∀ i, i < n → q_i τ 60 i = nI (f i)) {post : Int32 → kT → Prop} (h1 : okS (q_i τ0 67) c n → ∀ τ2, CT τ0 τ2 → (∀ i, i < n → q_i τ2 60 i = nI (nar f (q_i τ0 67) c i)) → post 1 τ2) (h0 : ¬ okS (q_i τ0 67) c n → ∀ τ2, CT τ0 τ2 → post 0 τ2) : T_X2_narrow (nI c) (nI n) τ post := by
  obtain ⟨nc, hnc, c1, c2, c3⟩ := hJ.nc
  have hc2 : c < nc := by rw [← c3]; exact hc
  have k1 : q_i τ0 3 c = q_i τ0 67 c := hJ.2.1.1 (1, c, 0) ⟨hc, rfl⟩
  have r1 : q_i τ0 4 c = nI r := (hJ.2.1.1 (2, c, 0) ⟨hc, rfl⟩).trans hr
  have g : ∀ {τ'}, CT τ0 τ' → ∀ x, x < 39 → q_i τ' x = q_i τ0 x := fun hT x hx => hT.1 x (by omega) (by omega)
  have eR : N (q_i τ0 67) (100 + c) = r := by unfold N; rw [hr, nI_clamp (by omega)]
  unfold T_X2_narrow
  refine s_X4_isBlind (n := nc) (by rw [g hT 2 (by decide)]; exact c1) hnc hc2 (fun q => br_f (by decide) (h0 (fun y => y.1 (by rw [← k1, ← g hT 3 (by decide)]; exact q)) τ hT)) (fun q => br_t rfl ⟨r + 1, ?_⟩)
  have q : q_i τ0 67 c ≠ 3 := by rw [← k1, ← g hT 3 (by decide)]; exact q
  have key : ∀ m k τ2, k + m = r → CT τ0 τ2 → (∀ j, j < k → q_i τ0 67 (400 + 18 * c + j) ≠ 0 → j < n) → (∀ i, i < n → q_i τ2 60 i = nI (narK f (q_i τ0 67) c k i)) → L_X2_narrow_13 (nI c) (nI n) (fun v16 τ17 => post (1 : Int32) τ17) post (m + 1) (nI k) τ2 := by
    intro m
    induction m with
    | zero =>
      intro k τ2 hk h2 hb hm
      have hk : k = r := by omega
      subst hk
      unfold L_X2_narrow_13
      refine ⟨c, rfl, by omega, br_t (by rw [g h2 4 (by decide), r1]; exact nI_le (Nat.le_refl _) (by omega)) (h1 ⟨q, by rw [eR]; exact hb⟩ τ2 h2 ?_)⟩
      unfold nar
      rw [eR]
      exact hm
    | succ m ih =>
      intro k τ2 hk h2 hb hm
      obtain ⟨hmm, m0, m1, m2, -⟩ := hJ.hts hc hr hr2 (i := k) (by omega)
      have eN : N (q_i τ0 67) (400 + 18 * c + k) = hmm := by unfold N; rw [m2, nI_clamp (by omega)]
      unfold L_X2_narrow_13
      refine ⟨c, rfl, by omega, br_f (by rw [g h2 4 (by decide), r1]; exact nI_ge (by omega) (by omega)) (s_heightsIn (n := nc) (r := r) (by rw [g h2 2 (by decide)]; exact c1) hnc hc2 (by rw [g h2 4 (by decide)]; exact r1) hr2 (by omega) ?_)⟩
      rw [g h2 5 (by decide), m1]
      refine ⟨fun z => ⟨fun z2 => ⟨k, rfl, by omega, k, rfl, by omega, fun τ12 h12 v13 h13 => ?_⟩, fun z2 => h0 (fun y => ?_) τ2 h2⟩, fun z v14 h14 => ?_⟩
      · have z2 := (nI_ltI (by omega) (by omega)).mp z2
        have z' : q_i τ0 67 (400 + 18 * c + k) ≠ 0 := by rw [m2]; exact z
        rw [h13, show nI k + 1 = nI (k + 1) from nI_1 k, h12]
        refine ih (k + 1) _ (by omega) (h2.si _ _) (fun j hj hz => ?_) (fun i hi => ?_)
        · by_cases e : j = k
          · omega
          · exact hb j (by omega) hz
        · rw [q_i_si, if_pos rfl, upd_at, narK_1 z' i]
          by_cases e : i = k
          · rw [if_pos e, if_pos e, hm k z2, b_and, eN]
          · rw [if_neg e, if_neg e]; exact hm i hi
      · refine z2 (nI_lt (y.2 k (by rw [eR]; omega) (by rw [m2]; exact z)) (by omega))
      · have z' : q_i τ0 67 (400 + 18 * c + k) = 0 := by rw [m2]; exact z
        rw [h14, show nI k + 1 = nI (k + 1) from nI_1 k]
        refine ih (k + 1) _ (by omega) h2 (fun j hj hz => ?_) ?_
        · by_cases e : j = k
          · rw [e] at hz; exact absurd z' hz
          · exact hb j (by omega) hz
        · rw [narK_z z']; exact hm
  refine key r 0 τ (by omega) hT (fun j hj => absurd hj (by omega)) ?_
  rw [narK_0]; exact hf
/-! the reference narrows -/
def RT (τ τ2 : kT) : Prop := (∀ x, x ≠ 66 → x ≠ 75 → q_i τ2 x = q_i τ x) ∧ (∀ x, x ≠ 76 → x ≠ 77 → q_l τ2 x = q_l τ x) ∧ (∀ k, k ≠ 20 → q_i τ2 66 k = q_i τ 66 k)
theorem RT.refl (τ : kT) : RT τ τ := ⟨fun _ _ _ => rfl, fun _ _ _ => rfl, fun _ _ => rfl⟩
theorem RT.si {τ τ2 : kT} (h : RT τ τ2) (k : Nat) (v : Int32) : RT τ (q_si τ2 75 k v) := ⟨fun x n1 n2 => by rw [q_i_si, if_neg n2]; exact h.1 x n1 n2, fun x n1 n2 => h.2.1 x n1 n2, fun k h' => h.2.2 k h'⟩
theorem RT.nv {τ τ2 : kT} (h : RT τ τ2) (v : Int32) : RT τ (q_si τ2 66 20 v) := ⟨fun x n1 n2 => by rw [q_i_si, if_neg n1]; exact h.1 x n1 n2, fun x n1 n2 => h.2.1 x n1 n2, fun k h' => by rw [q_i_si, if_pos rfl, upd_at, if_neg h']; exact h.2.2 k h'⟩
def nvF (τ : kT) (P : Prop) (f : Nat → Nat) : Prop := (q_i τ 66 20 = 1 ∧ P) ∨ (q_i τ 66 20 = 0 ∧ ¬ P ∧ ∀ i, i < 18 → q_i τ 75 i = nI (f i))
theorem r_nar_loop {τ0 : kT} {c r n : Nat} {f : Nat → Nat} {P : Prop} (hI : InvS (q_i τ0 67)) (hc : c < N (q_i τ0 67) 8522) (hr : q_i τ0 67 (100 + c) = nI r) (hr2 : r ≤ 18) (hn : n ≤ 18) {K : Int32 → kT → Prop} {post : Int32 → kT → Prop} (h : ∀ v τ2, RT τ0 τ2 → nvF τ2 (P ∨ ¬ (∀ j, j < r → q_i τ0 67 (400 + 18 * c + j) ≠ 0 → j < n)) (narK f (q_i τ0 67) c r) → K v τ2) : ∀ m k τ2, k + m = r → RT τ0 τ2 → nvF τ2 (P ∨ ¬ (∀ j, j < k → q_i τ0 67 (400 + 18 * c + j) ≠ 0 → j < n)) (narK f (q_i τ0 67) c k) → L_X11_narrows_93 (nI c) (nI n) K post (m + 1) (nI k) τ2 := by
  have hb := hI.bnd.1
  have e67 : ∀ {τ'}, RT τ0 τ' → q_i τ' 67 = q_i τ0 67 := fun hT => hT.1 67 (by decide) (by decide)
  intro m
  induction m with
  | zero =>
    intro k τ2 hk h2 hm
    have hk : k = r := by omega
    subst hk
    unfold L_X11_narrows_93
    exact ⟨100 + c, nI_add 100 c, by omega, br_t (by rw [e67 h2, hr]; exact nI_le (Nat.le_refl _) (by omega)) (h _ τ2 h2 hm)⟩
  | succ m ih =>
    intro k τ2 hk h2 hm
    obtain ⟨hmm, m0, m1, m2⟩ := hI.hts hc (i := k) (by omega)
    unfold L_X11_narrows_93
    refine ⟨100 + c, nI_add 100 c, by omega, br_f (by rw [e67 h2, hr]; exact nI_ge (by omega) (by omega)) ⟨400 + 18 * c + k, ev_3 400 18 c k, by omega, fun v9 h9 => ?_⟩⟩
    rw [e67 h2] at h9
    by_cases z : q_i τ0 67 (400 + 18 * c + k) = 0
    · rw [z] at h9
      refine br_t h9 (br_t h9 (fun v12 h12 => ?_))
      rw [h12, show nI k + 1 = nI (k + 1) from nI_1 k]
      refine ih (k + 1) τ2 (by omega) h2 ?_
      rw [narK_z z]
      have e : (∀ j, j < k + 1 → q_i τ0 67 (400 + 18 * c + j) ≠ 0 → j < n) ↔ (∀ j, j < k → q_i τ0 67 (400 + 18 * c + j) ≠ 0 → j < n) := by
        refine ⟨fun y j hj => y j (by omega), fun y j hj hz => ?_⟩
        by_cases e : j = k
        · rw [e] at hz; exact absurd z hz
        · exact y j (by omega) hz
      rw [e]
      exact hm
    · have z9 : ¬ v9 = 0 := by rw [h9]; exact z
      refine br_f z9 ?_
      by_cases kn : k < n
      · refine br_t (nI_lt kn (by omega)) (br_f z9 ⟨k, rfl, by omega, k, rfl, by omega, fun τ22 h22 v23 h23 => ?_⟩)
        rw [h23, show nI k + 1 = nI (k + 1) from nI_1 k, h22]
        refine ih (k + 1) _ (by omega) (h2.si _ _) ?_
        have e : (∀ j, j < k + 1 → q_i τ0 67 (400 + 18 * c + j) ≠ 0 → j < n) ↔ (∀ j, j < k → q_i τ0 67 (400 + 18 * c + j) ≠ 0 → j < n) := by
          refine ⟨fun y j hj => y j (by omega), fun y j hj hz => ?_⟩
          by_cases e : j = k
          · omega
          · exact y j (by omega) hz
        rw [e]
        rcases hm with ⟨p1, p2⟩ | ⟨p1, p2, p3⟩
        · exact Or.inl ⟨p1, p2⟩
        · refine Or.inr ⟨p1, p2, fun i hi => ?_⟩
          rw [q_i_si, if_pos rfl, upd_at, narK_1 z i]
          by_cases e : i = k
          · rw [if_pos e, if_pos e, p3 k (by omega), h9, m1, b_and, m2]
          · rw [if_neg e, if_neg e]; exact p3 i hi
      · refine br_f (fun y => kn ((nI_ltI (by omega) (by omega)).mp y)) (fun τ24 h24 v25 h25 => ?_)
        rw [h25, show nI k + 1 = nI (k + 1) from nI_1 k, h24]
        refine ih (k + 1) _ (by omega) (h2.nv 1) (Or.inl ⟨rfl, Or.inr (fun y => kn (y k (by omega) z))⟩)
theorem r_nar1 {τ0 τ : kT} {c n : Nat} {f : Nat → Nat} {P : Prop} (hI : InvS (q_i τ0 67)) (hT : RT τ0 τ) (hc : c < N (q_i τ0 67) 8522) (h4 : q_i τ0 67 c ≠ 4) (hn : n ≤ 18) (e : Nat) (hF : nvF τ P f) {post : Int32 → kT → Prop} (hm : q_i τ0 67 (100 + c) = -1 → ∀ τ2, RT τ0 τ2 → post 0 τ2) (h : q_i τ0 67 (100 + c) ≠ -1 → ∀ τ2, RT τ0 τ2 → nvF τ2 (P ∨ ¬ okS (q_i τ0 67) c n) (nar f (q_i τ0 67) c) → post 1 τ2) : T_X11_narrows (e + 1) (nI c) (nI n) τ post := by
  have hb := hI.bnd.1
  have e67 : ∀ {τ'}, RT τ0 τ' → q_i τ' 67 = q_i τ0 67 := fun hT => hT.1 67 (by decide) (by decide)
  unfold T_X11_narrows
  refine bn_t (nI_m1 (by omega)) ⟨c, ev_0a c, by omega, bn_t (by rw [e67 hT]; exact h4) ?_⟩
  have go : ∀ τ3, RT τ0 τ3 → nvF τ3 (P ∨ q_i τ0 67 c = 3) f → ∃ m26 : Nat, L_X11_narrows_93 (nI c) (nI n) (fun v27 τ28 => (∃ j29 : Nat, ((100 : Int32) + nI c) = nI j29 ∧ j29 < 8530 ∧ (((q_i τ28 67 j29) < 0 → post (0 : Int32) τ28) ∧ (¬ (q_i τ28 67 j29) < 0 → post (1 : Int32) τ28)))) post m26 (0 : Int32) τ3 := by
    intro τ3 h3 hF3
    rcases hI.row hc with ⟨z, -⟩ | ⟨r, hr, z, z2⟩
    · refine ⟨1, ?_⟩
      unfold L_X11_narrows_93
      refine ⟨100 + c, nI_add 100 c, by omega, br_t (by rw [e67 h3, z]; decide) ⟨100 + c, nI_add 100 c, by omega, br_t (by rw [e67 h3, z]; decide) (hm z τ3 h3)⟩⟩
    · refine ⟨r + 1, ?_⟩
      refine r_nar_loop (f := f) (P := P ∨ q_i τ0 67 c = 3) hI hc z hr hn (fun v τ2 h2 hF2 => ⟨100 + c, nI_add 100 c, by omega, br_f (by rw [e67 h2, z]; exact nI_pos (by omega)) (h (by rw [z]; exact nI_m1 (by omega)) τ2 h2 ?_)⟩) r 0 τ3 (by omega) h3 ?_
      rotate_left
      · have eO : (P ∨ ¬ okS (q_i τ0 67) c n) ↔ ((P ∨ q_i τ0 67 c = 3) ∨ ¬ (∀ j, j < r → q_i τ0 67 (400 + 18 * c + j) ≠ 0 → j < n)) := by
          unfold okS
          rw [z2]
          constructor
          · rintro (y | y)
            · exact Or.inl (Or.inl y)
            · by_cases w : q_i τ0 67 c = 3
              · exact Or.inl (Or.inr w)
              · exact Or.inr (fun y2 => y ⟨w, y2⟩)
          · rintro ((y | y) | y)
            · exact Or.inl y
            · exact Or.inr (fun w => w.1 y)
            · exact Or.inr (fun w => y w.2)
        unfold nar
        rw [z2, nvF, eO]
        exact hF2
      · rw [narK_0]
        have e0 : ((P ∨ q_i τ0 67 c = 3) ∨ ¬ (∀ j, j < 0 → q_i τ0 67 (400 + 18 * c + j) ≠ 0 → j < n)) ↔ (P ∨ q_i τ0 67 c = 3) := ⟨fun y => y.elim id (fun w => absurd (fun j hj => absurd hj (by omega)) w), Or.inl⟩
        rw [nvF, e0]
        exact hF3
  rcases hF with ⟨p1, p2⟩ | ⟨p1, p2, p3⟩
  · refine bn_t (by rw [p1]; decide) (fun τ5 h5 => ?_)
    rw [h5]
    exact go _ (hT.nv 1) (Or.inl ⟨rfl, Or.inl p2⟩)
  · refine bn_f p1 ⟨c, ev_0a c, by omega, ?_⟩
    rw [e67 hT]
    by_cases q : q_i τ0 67 c = 3
    · refine bn_f q (fun τ5 h5 => ?_)
      rw [h5]
      exact go _ (hT.nv 1) (Or.inl ⟨rfl, Or.inr q⟩)
    · refine bn_t q (fun τ5 h5 => ?_)
      rw [h5]
      exact go _ (hT.nv 0) (Or.inr ⟨rfl, fun y => y.elim p2 q, p3⟩)
/-! how many rows: numbers -/
abbrev near (st v w : Nat) : Prop := v ≤ w + st ∧ w ≤ v + st
def sumTo (f : Nat → Nat) : Nat → Nat
  | 0 => 0
  | n + 1 => sumTo f n + f n
theorem sumTo_le {f : Nat → Nat} {b : Nat} (h : ∀ i, f i ≤ b) : ∀ n, sumTo f n ≤ n * b
  | 0 => Nat.zero_le _
  | n + 1 => by
    have := sumTo_le h n
    have := h n
    unfold sumTo
    rw [Nat.succ_mul]
    omega
def nrS (st : Nat) (W : Nat → Nat) (v : Nat) : Nat → Nat := fun w => if near st v w then W w else 0
def WW (f : Nat → Nat) (st : Nat) : Nat → Nat → Nat
  | 0, v => if (f 0).testBit v then 1 else 0
  | i + 1, v => if (f (i + 1)).testBit v then sumTo (nrS st (WW f st i) v) 10 else 0
theorem WW_le (f : Nat → Nat) (st : Nat) : ∀ i v, WW f st i v ≤ 10 ^ i
  | 0, v => by unfold WW; split <;> decide
  | i + 1, v => by
    unfold WW
    split
    · have h := sumTo_le (f := nrS st (WW f st i) v) (b := 10 ^ i) (fun w => by unfold nrS; split; exact WW_le f st i w; exact Nat.zero_le _) 10
      rw [Nat.pow_succ, Nat.mul_comm]
      exact h
    · exact Nat.zero_le _
theorem nrS_lo {st v : Nat} {W : Nat → Nat} : ∀ a, a ≤ v - st → sumTo (nrS st W v) a = 0
  | 0, _ => rfl
  | a + 1, h => by
    unfold sumTo
    rw [nrS_lo a (by omega), nrS, if_neg (fun y : near st v a => by have := y.1; omega)]
theorem nrS_hi {st v : Nat} {W : Nat → Nat} : ∀ d a, v + st < a → sumTo (nrS st W v) (a + d) = sumTo (nrS st W v) a
  | 0, _, _ => rfl
  | d + 1, a, h => by
    show sumTo (nrS st W v) (a + d) + nrS st W v (a + d) = _
    rw [nrS_hi d a h, nrS, if_neg (fun y : near st v (a + d) => by have := y.2; omega), Nat.add_zero]
theorem i64_add (a b : Nat) : Int64.ofNat a + Int64.ofNat b = Int64.ofNat (a + b) := (Int64.ofNat_add a b).symm
theorem mn_ok : ∀ v, v < 10 → ∀ st, st < 10 → q_min (9 : Int32) (nI v + nI st) = nI (min 9 (v + st)) := by decide
theorem mx_ok : ∀ v, v < 10 → ∀ st, st < 10 → q_max (0 : Int32) (nI v - nI st) = nI (v - st) := by decide
theorem bit64 (b : Bool) : (nI b.toNat).toInt64 = Int64.ofNat b.toNat := by cases b <;> decide
/-! the class's counting -/
theorem q_c12 (τ : kT) : q_c1 τ ≠ q_c2 τ := by
  unfold q_c1 q_c2
  split <;> decide
theorem q_c1_v (τ : kT) : q_c1 τ = 61 ∨ q_c1 τ = 62 := by
  unfold q_c1
  split
  · exact Or.inl rfl
  · exact Or.inr rfl
theorem q_c2_v (τ : kT) : q_c2 τ = 61 ∨ q_c2 τ = 62 := by
  unfold q_c2
  split
  · exact Or.inr rfl
  · exact Or.inl rfl
theorem s_rowsNear {τ : kT} {v st : Nat} {W : Nat → Nat} (hv : v < 10) (hs : st < 10) (hW : ∀ w, w < 10 → q_l τ (q_c1 τ) w = Int64.ofNat (W w)) {post : Int64 → kT → Prop} (h : post (Int64.ofNat (sumTo (nrS st W v) 10)) τ) : T_X2_rowsNear (nI v) (nI st) τ post := by
  intro v1 h1 v2 h2
  rw [mn_ok v hv st hs] at h1
  rw [mx_ok v hv st hs] at h2
  subst h1 h2
  have e10 : sumTo (nrS st W v) (min 9 (v + st) + 1) = sumTo (nrS st W v) 10 := by
    by_cases q : 9 ≤ v + st
    · rw [Nat.min_eq_left q]
    · have := nrS_hi (st := st) (v := v) (W := W) (10 - (v + st + 1)) (v + st + 1) (by omega)
      rw [show v + st + 1 + (10 - (v + st + 1)) = 10 by omega] at this
      rw [Nat.min_eq_right (by omega), this]
  have key : ∀ m w, w + m = min 9 (v + st) + 1 → v - st ≤ w → L_X2_rowsNear_21 (nI v) (nI st) (nI (min 9 (v + st))) (fun v8 v9 τ10 => post v8 τ10) post (m + 1) (Int64.ofNat (sumTo (nrS st W v) w)) (nI w) τ := by
    intro m
    induction m with
    | zero =>
      intro w hw hlo
      unfold L_X2_rowsNear_21
      refine br_t (nI_lt (by omega) (by omega)) ?_
      rw [show w = min 9 (v + st) + 1 by omega, e10]
      exact h
    | succ m ih =>
      intro w hw hlo
      unfold L_X2_rowsNear_21
      refine br_f (nI_nlt (by omega) (by omega)) ⟨w, rfl, by omega, fun v5 h5 v6 h6 => ?_⟩
      rw [h6, show nI w + 1 = nI (w + 1) from nI_1 w, h5, hW w (by omega), i64_add]
      have e : sumTo (nrS st W v) w + W w = sumTo (nrS st W v) (w + 1) := by
        show _ = sumTo (nrS st W v) w + nrS st W v w
        rw [nrS, if_pos (show near st v w from ⟨by omega, by omega⟩)]
      rw [e]
      exact ih (w + 1) (by omega) (by omega)
  refine ⟨(min 9 (v + st) + 1 - (v - st)) + 1, ?_⟩
  have := key (min 9 (v + st) + 1 - (v - st)) (v - st) (by omega) (Nat.le_refl _)
  rw [nrS_lo _ (Nat.le_refl _)] at this
  exact this
def CD (τ0 τ : kT) (n : Nat) (f : Nat → Nat) (W : Nat → Nat) : Prop := CT τ0 τ ∧ (∀ i, i < n → q_i τ 60 i = nI (f i)) ∧ ∀ w, w < 10 → q_l τ (q_c1 τ) w = Int64.ofNat (W w)
theorem q_c_sl (τ : kT) (x k : Nat) (v : Int64) : q_c1 (q_sl τ x k v) = q_c1 τ ∧ q_c2 (q_sl τ x k v) = q_c2 τ := ⟨rfl, rfl⟩
theorem CT.sl {τ τ2 : kT} (h : CT τ τ2) {x : Nat} (hx : x = 61 ∨ x = 62) (k : Nat) (v : Int64) : CT τ (q_sl τ2 x k v) := ⟨h.1, fun y n1 n2 => by rw [q_l_sl, if_neg (by omega)]; exact h.2 y n1 n2⟩
theorem s_lengthen {τ0 τ : kT} {n st i : Nat} {f : Nat → Nat} (hf : ∀ i, f i < 1024) (hs : st < 10) (hi : i + 1 < n) (hD : CD τ0 τ n f (WW f st i)) {post : kT → Prop} (h : ∀ τ2, CD τ0 τ2 n f (WW f st (i + 1)) → post τ2) : T_X2_lengthen (q_i τ 60 (i + 1)) (nI st) τ post := by
  rw [hD.2.1 (i + 1) hi]
  have key : ∀ m v τ2, v + m = 10 → CD τ0 τ2 n f (WW f st i) → (∀ w, w < v → q_l τ2 (q_c2 τ2) w = Int64.ofNat (WW f st (i + 1) w)) → L_X2_lengthen_2 (nI (f (i + 1))) (nI st) (fun v12 τ13 => post (q_sw τ13)) post (m + 1) (nI v) τ2 := by
    intro m
    induction m with
    | zero =>
      intro v τ2 hv h2 hw
      have hv : v = 10 := by omega
      subst hv
      unfold L_X2_lengthen_2
      refine br_t (by decide) (h _ ⟨⟨fun x n1 n2 => ?_, fun x n1 n2 => h2.1.2 x n1 n2⟩, fun i hi => h2.2.1 i hi, fun w hw2 => ?_⟩)
      · unfold q_sw
        rw [q_i_si, if_neg n1]; exact h2.1.1 x n1 n2
      · rw [q_sw_c1]
        exact hw w hw2
    | succ m ih =>
      intro v τ2 hv h2 hw
      have hfi := hf (i + 1)
      have step : ∀ τ6 : kT, τ6 = q_sl τ2 (q_c2 τ2) v (Int64.ofNat (WW f st (i + 1) v)) → L_X2_lengthen_2 (nI (f (i + 1))) (nI st) (fun v12 τ13 => post (q_sw τ13)) post (m + 1) (nI (v + 1)) τ6 := by
        intro τ6 h6
        refine ih (v + 1) τ6 (by omega) ⟨?_, ?_, ?_⟩ (fun w hw2 => ?_)
        · rw [h6]; exact h2.1.sl (q_c2_v τ2) _ _
        · rw [h6]; exact h2.2.1
        · rw [h6]
          intro w hw2
          rw [(q_c_sl _ _ _ _).1, q_l_sl, if_neg (q_c12 τ2)]
          exact h2.2.2 w hw2
        · rw [h6, (q_c_sl _ _ _ _).2, q_l_sl, if_pos rfl]
          by_cases e : w = v
          · rw [e]; exact if_pos rfl
          · show (if w = v then _ else q_l τ2 (q_c2 τ2) w) = _
            rw [if_neg e]; exact hw w (by omega)
      unfold L_X2_lengthen_2
      refine br_f (nI_nlt (a := 9) (by omega) (by omega)) ⟨fun q => ?_, fun q => ⟨v, rfl, by omega, fun τ9 h9 v10 h10 => ?_⟩⟩
      · refine s_rowsNear (W := WW f st i) (by omega) hs h2.2.2 ⟨v, rfl, by omega, fun τ6 h6 v7 h7 => ?_⟩
        rw [h7, show nI v + 1 = nI (v + 1) from nI_1 v]
        refine step τ6 ?_
        rw [h6]
        congr 2
        have q2 : (f (i + 1)).testBit v = true := by
          cases z : (f (i + 1)).testBit v with
          | true => rfl
          | false => exact absurd ((b_tst (by omega) (by omega)).mpr z) q
        show _ = (if (f (i + 1)).testBit v then sumTo (nrS st (WW f st i) v) 10 else 0)
        rw [q2]; rfl
      · rw [h10, show nI v + 1 = nI (v + 1) from nI_1 v]
        refine step τ9 ?_
        rw [h9]
        rw [b_tst (by omega) (by omega)] at q
        have e : WW f st (i + 1) v = 0 := by
          show (if (f (i + 1)).testBit v then sumTo (nrS st (WW f st i) v) 10 else 0) = 0
          rw [q]; rfl
        rw [e]; rfl
  exact ⟨11, key 10 0 τ (by omega) hD (fun w hw => absurd hw (by omega))⟩
theorem s_countUp {τ0 τ : kT} {n st : Nat} {f : Nat → Nat} (hf : ∀ i, f i < 1024) (hs : st < 10) (hn : n ≤ 18) (hT : CT τ0 τ) (hm : ∀ i, i < n → q_i τ 60 i = nI (f i)) {post : Int64 → kT → Prop} (h0 : n = 0 → post 1 τ) (h : n ≠ 0 → ∀ τ2, CT τ0 τ2 → post (Int64.ofNat (sumTo (WW f st (n - 1)) 10)) τ2) : T_X2_countUp (nI n) (nI st) τ post := by
  unfold T_X2_countUp
  by_cases e0 : n = 0
  · exact bn_f (by rw [e0]; rfl) (h0 e0)
  refine bn_t (fun y => e0 ((nI_eq (b := 0) (by omega) (by decide)).mp y)) ⟨11, ?_⟩
  have last : ∀ τ2, CD τ0 τ2 n f (WW f st (n - 1)) → ∃ m21 : Nat, L_X2_countUp_66 (nI n) (nI st) (fun v22 v23 τ24 => post v22 τ24) post m21 (0 : Int64) (0 : Int32) τ2 := by
    intro τ2 h2
    have key : ∀ m v, v + m = 10 → L_X2_countUp_66 (nI n) (nI st) (fun v22 v23 τ24 => post v22 τ24) post (m + 1) (Int64.ofNat (sumTo (WW f st (n - 1)) v)) (nI v) τ2 := by
      intro m
      induction m with
      | zero =>
        intro v hv
        have hv : v = 10 := by omega
        subst hv
        unfold L_X2_countUp_66
        exact br_t (by decide) (h e0 τ2 h2.1)
      | succ m ih =>
        intro v hv
        unfold L_X2_countUp_66
        refine br_f (nI_nlt (a := 9) (by omega) (by omega)) ⟨v, rfl, by omega, fun v19 h19 v20 h20 => ?_⟩
        rw [h20, show nI v + 1 = nI (v + 1) from nI_1 v, h19, h2.2.2 v (by omega), i64_add]
        exact ih (v + 1) (by omega)
    exact ⟨11, key 10 0 (by omega)⟩
  have mid : ∀ τ2, CD τ0 τ2 n f (WW f st 0) → ∃ m14 : Nat, L_X2_countUp_39 (nI n) (nI st) (fun v15 τ16 => (∃ m21 : Nat, L_X2_countUp_66 (nI n) (nI st) (fun v22 v23 τ24 => post v22 τ24) post m21 (0 : Int64) (0 : Int32) τ16)) post m14 (1 : Int32) τ2 := by
    intro τ2 h2
    have key : ∀ m i τ3, i + 1 + m = n → CD τ0 τ3 n f (WW f st i) → L_X2_countUp_39 (nI n) (nI st) (fun v15 τ16 => (∃ m21 : Nat, L_X2_countUp_66 (nI n) (nI st) (fun v22 v23 τ24 => post v22 τ24) post m21 (0 : Int64) (0 : Int32) τ16)) post (m + 1) (nI (i + 1)) τ3 := by
      intro m
      induction m with
      | zero =>
        intro i τ3 hi h3
        unfold L_X2_countUp_39
        refine br_t (nI_le (by omega) (by omega)) (last τ3 ?_)
        rw [show n - 1 = i by omega]
        exact h3
      | succ m ih =>
        intro i τ3 hi h3
        unfold L_X2_countUp_39
        refine br_f (nI_ge (by omega) (by omega)) ⟨i + 1, rfl, by omega, s_lengthen hf hs (by omega) h3 (fun τ4 h4 v13 h13 => ?_)⟩
        rw [h13, show nI (i + 1) + 1 = nI (i + 1 + 1) from nI_1 (i + 1)]
        exact ih (i + 1) τ4 (by omega) h4
    exact ⟨n - 1 + 1, key (n - 1) 0 τ2 (by omega) h2⟩
  have key : ∀ m v τ2, v + m = 10 → CT τ0 τ2 → (∀ i, i < n → q_i τ2 60 i = nI (f i)) → (∀ w, w < v → q_l τ2 (q_c1 τ2) w = Int64.ofNat (WW f st 0 w)) → L_X2_countUp_8 (nI n) (nI st) (fun v7 τ8 => (∃ m14 : Nat, L_X2_countUp_39 (nI n) (nI st) (fun v15 τ16 => (∃ m21 : Nat, L_X2_countUp_66 (nI n) (nI st) (fun v22 v23 τ24 => post v22 τ24) post m21 (0 : Int64) (0 : Int32) τ16)) post m14 (1 : Int32) τ8)) post (m + 1) (nI v) τ2 := by
    intro m
    induction m with
    | zero =>
      intro v τ2 hv h2 hm2 hw
      have hv : v = 10 := by omega
      subst hv
      unfold L_X2_countUp_8
      exact br_t (by decide) (mid τ2 ⟨h2, hm2, hw⟩)
    | succ m ih =>
      intro v τ2 hv h2 hm2 hw
      have hf0 := hf 0
      unfold L_X2_countUp_8
      refine br_f (nI_nlt (a := 9) (by omega) (by omega)) ⟨v, rfl, by omega, fun τ4 h4 v5 h5 => ?_⟩
      rw [hm2 0 (by omega), b_shr (by omega) (by omega), show (1 : Int32) = nI 1 from rfl, b_and, b_bit, bit64] at h4
      rw [h5, show nI v + 1 = nI (v + 1) from nI_1 v, h4]
      refine ih (v + 1) _ (by omega) (h2.sl (q_c1_v τ2) _ _) hm2 (fun w hw2 => ?_)
      rw [(q_c_sl _ _ _ _).1, q_l_sl, if_pos rfl]
      by_cases e : w = v
      · rw [e]
        show (if v = v then _ else _) = _
        rw [if_pos rfl]
        congr 1
        show _ = if (f 0).testBit v then 1 else 0
        cases (f 0).testBit v <;> rfl
      · show (if w = v then _ else q_l τ2 (q_c1 τ2) w) = _
        rw [if_neg e]; exact hw w (by omega)
  exact key 10 0 τ (by omega) hT hm (fun w hw => absurd hw (by omega))
