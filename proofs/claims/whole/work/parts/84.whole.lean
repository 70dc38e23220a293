/-! ===== the reference: searched ===== -/
def RF (τs τ6 : kT) (tr : Nat) : Prop := (∀ x, x ≠ 66 → ¬ (70 ≤ x ∧ x < 75) → q_i τ6 x = q_i τs x) ∧ (∀ x, q_l τ6 x = q_l τs x) ∧ (∀ i, i ≠ 7 → i ≠ 10 → i ≠ 14 → q_i τ6 66 i = q_i τs 66 i) ∧ q_i τ6 66 10 = nI tr
theorem hlc_of {s : Nat → Int32} (hI : InvS s) {lo k n : Nat} (hn : n ≤ 5) (hk : lo < k → lo < N s 8523 ∧ s (2200 + lo) = nI n) : lo < k → ∀ c, c < n → lcS s lo c ≤ 9 := by
  intro hl c hc
  obtain ⟨h1, h2⟩ := hk hl
  have el : N s (2200 + lo) = n := by unfold N; rw [h2, nI_clamp (by omega)]
  exact (hI.2.2.2.2.2.2.2.2.2.2.2.1 lo c h1 (by omega)).2
theorem dD {s : Nat → Int32} (hI : InvS s) {d n j : Nat} (hD : DOK s d n) (hj : j < d) : ∃ kd, kd < 4 ∧ s (cyS s j) = nI kd ∧ N s (cyS s j) = kd := by
  obtain ⟨-, p2, p3, -⟩ := hD j hj
  obtain ⟨⟨q1, q2⟩, -⟩ := hI.2.2.2.2.2.2.2.1 (cyS s j) p2
  refine ⟨N s (cyS s j), ?_, q1, rfl⟩
  rcases Nat.lt_or_ge (N s (cyS s j)) 4 with z | z
  · exact z
  · exact absurd (by rw [q1, show N s (cyS s j) = 4 by omega]; rfl) p3
theorem hh_of {s : Nat → Int32} (hI : InvS s) {d n j c : Nat} (hD : DOK s d n) (hn : n ≤ 5) (hj : j < d) (hc : c < n) : s (400 + 18 * cyS s j + c) = nI (hhS s j c) ∧ hhS s j c < 1024 := by
  obtain ⟨m, m1, m2, m3⟩ := hI.hts (hD j hj).2.1 (i := c) (by omega)
  unfold hhS
  rw [m3]
  exact ⟨m2, m1⟩
/-- lost's cuts, whether there is a lost key or not -/
def lcF (s : Nat → Int32) (lo k : Nat) : Nat → Nat := fun c => if lo < k then lcS s lo c else 0
theorem r_searched {τs : kT} {k d n sp lo : Nat} {lv : Int32} (hI : InvS (q_i τs 67)) (h9 : ∃ m, m ≤ 1000 ∧ q_i τs 66 9 = nI m) (hz : ∀ i, 8530 ≤ i → q_i τs 67 i = 0 ∧ q_i τs 68 i = 0) (hk : k ≤ 6) (hkn : k ≤ N (q_i τs 67) 8523) (hd : d ≤ 6) (hdn : d ≤ N (q_i τs 67) 8525) (hn0 : 0 < n) (hn : n ≤ 5) (hs : sp < 10) (hl1 : lo < k → lv = nI lo) (hl2 : ¬ lo < k → lv = -1) (hlen : lo < k → q_i τs 67 (2200 + lo) = nI n) (hlc : ∀ c, c < n → lcS (q_i τs 67) lo c ≤ 9) {post : Int32 → kT → Prop}
    (hc1 : dr (q_i τs 67) n d 0 = 1 → T_X11_met 1 τs post) (hc3 : dr (q_i τs 67) n d 0 = 3 → T_X11_met 3 τs post) (hc9 : dr (q_i τs 67) n d 0 = 9 → post (-3) τs)
    (hP0 : dr (q_i τs 67) n d 0 = 0 → (oS (q_i τs 67) lo k d n sp).1 = 0 → ∀ τ2, RF τs τ2 (oS (q_i τs 67) lo k d n sp).2.2 → post 0 (q_si τ2 66 4 0))
    (hP2 : dr (q_i τs 67) n d 0 = 0 → (oS (q_i τs 67) lo k d n sp).1 = 2 → ∀ τ2, RF τs τ2 (oS (q_i τs 67) lo k d n sp).2.2 → post (-5) (q_si τ2 66 4 0))
    (hP1 : dr (q_i τs 67) n d 0 = 0 → (oS (q_i τs 67) lo k d n sp).1 = 1 → ∀ τ2 τ3 s', RF τs τ2 (oS (q_i τs 67) lo k d n sp).2.2 → W1 67 (q_si (q_wi τ2 68 (q_i τ2 67)) 66 2 1) τ3 s' → (∀ t, t < cT lo k → s' (2200 + key lo t) = nI n) → (∀ t, t < cT lo k → ∀ c, c < n → s' (2300 + 18 * key lo t + c) = nI ((oS (q_i τs 67) lo k d n sp).2.1 (t * n + c))) → (∀ j, j < d → ∀ c, c < n → s' (400 + 18 * cyS (q_i τs 67) j + c) = nI (Mk (opS (q_i τs 67)) (hhS (q_i τs 67)) lo n (cT lo k) (oS (q_i τs 67) lo k d n sp).2.1 j c)) → (∀ i, (∀ t, t < cT lo k → i ≠ 2200 + key lo t) → (∀ t, t < cT lo k → ∀ c, c < n → i ≠ 2300 + 18 * key lo t + c) → (∀ j, j < d → ∀ c, c < n → i ≠ 400 + 18 * cyS (q_i τs 67) j + c) → s' i = q_i τs 67 i) → post 1 (q_si τ3 66 4 0)) : T_X11_searched lv (nI k) (nI d) (nI n) (nI sp) τs post := by
  have hS : Sz k d n sp lo (cT lo k) lv := Sz_of hk hd hn0 hn hs hl1 hl2
  unfold T_X11_searched
  refine r_against hI hd hdn hn ?_
  rcases dr_v (q_i τs 67) n d 0 with e | e | e | e
  case inr.inl =>
    rw [e]
    exact br_f (by decide) (bn_t (by decide) (hc1 e))
  case inr.inr.inl =>
    rw [e]
    exact br_f (by decide) (bn_t (by decide) (hc3 e))
  case inr.inr.inr =>
    rw [e]
    exact br_f (by decide) (bn_f rfl (hc9 e))
  rw [e]
  have hD : DOK (q_i τs 67) d n := DOK_of hI hdn e
  have hP0 := hP0 e
  have hP1 := hP1 e
  have hP2 := hP2 e
  refine br_t rfl (fun τ4 h4 => ?_)
  have hG4 : GR τs τ4 := ⟨fun x n1 _ _ _ => by rw [h4, q_i_si, if_neg n1], fun x => by rw [h4]; rfl, fun i n7 n14 => by rw [h4, q_i_si, if_pos rfl, upd_ne n14]⟩
  refine r_read hI h9 hG4 (by rw [h4]; rfl) hk hkn hd hdn hn hl1 hl2 hlen (fun v τ5 hG u14 u72 u73 u70 τ49 h49 => ?_)
  have e67 : q_i τ49 67 = q_i τs 67 := by rw [h49]; exact hG.1 67 (by decide) (by decide) (by decide) (by decide)
  have h0 : R0 τ49 k d n lo (cT lo k) (opS (q_i τs 67)) (nvS (q_i τs 67) lo) (blS (q_i τs 67)) (msS (q_i τs 67)) (cyS (q_i τs 67)) (hhS (q_i τs 67)) := by
    refine ⟨by rw [h49]; exact u14, fun t ht => by rw [h49]; exact u72 t ht, fun t ht j hj => ?_, fun y hy j hj => ?_, fun j hj => ?_, fun j hj c hc => ?_⟩
    · have e73 : q_i τ49 73 (6 * key lo t + j) = shS (q_i τs 67) lo (key lo t) j := by rw [h49]; exact u73 _ (key_cT ht) j hj
      rw [e73]
      unfold shS opS
      rw [if_neg (key_ne lo t), decide_eq_true_eq]
    · have e73 : q_i τ49 73 (6 * y + j) = shS (q_i τs 67) lo y j := by rw [h49]; exact u73 y hy j hj
      rw [e73]
      unfold shS nvS
      by_cases q : y = lo
      · rw [if_pos q, if_pos q, decide_eq_true_eq]
        by_cases w : (rwK (q_i τs 67) lo (q_i τs 67 (4464 + j))).1 = 1
        · rw [if_pos w]; exact ⟨fun _ => w, fun _ => rfl⟩
        · rw [if_neg w]; exact ⟨fun u => absurd u (by decide), fun u => absurd u w⟩
      · rw [if_neg q, if_neg q, decide_eq_true_eq]
    · obtain ⟨p1, p2, p3, p4, -⟩ := hD j hj
      obtain ⟨kd, k4, k5, k6⟩ := dD hI hD hj
      rw [e67]
      refine ⟨by have := hI.bnd.1; omega, p1, kd, k4, k5, ?_, ?_⟩
      · unfold msS; rw [k6]
      · unfold blS; rw [k6, decide_eq_true_eq]
    · rw [e67]; exact hh_of hI hD hn hj hc
  have toRF : ∀ {τ2 : kT} {p tr : Nat} {g : Nat → Nat}, RRel τ49 τ2 k n lo (lcS (q_i τs 67) lo) p g tr → RF τs τ2 tr := by
    intro τ2 p tr g h
    refine ⟨fun x n1 n2 => ?_, fun x => ?_, fun i n7 n10 n14 => ?_, h.1.2.2.2⟩
    · rw [h.1.1 x n1 (by omega) (by omega) (by omega), h49, q_i_si, if_neg n1]
      exact hG.1 x n1 (by omega) (by omega) (by omega)
    · rw [h.1.2.1 x, h49]; exact hG.2.1 x
    · rw [h.1.2.2.1 i n10, h49, q_i_si, if_pos rfl, upd_ne n10]
      exact hG.2.2 i n7 n14
  refine r_search hS h0 hlc (fun hl c hc => by rw [h49]; exact u70 hl c hc) (by rw [h49]; rfl) (fun o0 τ2 h2 => bn_t (by decide) (s_well (hP0 o0 τ2 (toRF h2)))) (fun o1 τ2 h2 hm2 => bn_f rfl ?_) (fun o2 τ2 h2 => bn_t (by decide) (s_well (hP2 o2 τ2 (toRF h2))))
  have hF := toRF h2
  have f67 : q_i τ2 67 = q_i τs 67 := hF.1 67 (by decide) (by decide)
  refine s_change (by rw [f67, hF.1 68 (by decide) (by decide)]; exact hz) ?_
  obtain ⟨τ56, e56⟩ : ∃ τ56, τ56 = q_si (q_wi τ2 68 (q_i τ2 67)) 66 2 1 := ⟨_, rfl⟩
  rw [← e56]
  have w67 : q_i τ56 67 = q_i τs 67 := by rw [e56, ← f67]; rfl
  refine r_take (τ0 := τ49) (cy := cyS (q_i τs 67)) (g := (oS (q_i τs 67) lo k d n sp).2.1) hS h0 ?_ ?_ (fun q hq => ?_) (fun j hj => by rw [w67]; exact (hD j hj).1) (fun j hj => ⟨by have := (hD j hj).2.1; have := hI.bnd.1; omega, (hD j hj).2.2.2.2⟩) (fun j hj c hc => ?_) (fun τ3 s' hW l1 l2 l3 l4 => s_well ?_)
  · rw [e56]
    show q_i τ2 66 14 = _
    rw [h2.1.2.2.1 14 (by decide), h49]; exact u14
  · rw [e56]
    show q_i τ2 72 = _
    exact h2.1.1 72 (by decide) (by decide) (by decide) (by decide)
  · rw [e56]
    show q_i τ2 70 (ix n lo q) = _
    exact (h2.2.1 q hq).1
  · rw [e56]
    show q_i τ2 74 (5 * j + c) = _
    exact hm2 j hj c hc
  · rw [e56] at hW
    exact hP1 o1 τ2 τ3 s' hF hW l1 l2 l3 (fun i i1 i2 i3 => by rw [l4 i i1 i2 i3, w67])
/-! ===== KeyShop: the search as a whole ===== -/
theorem C0.tr {τ0 : kT} {k d n sp lo T : Nat} {lv : Int32} {op nv : Nat → Nat → Bool} {bl : Nat → Bool} {ms : Nat → Nat} {hh : Nat → Nat → Nat} (h : C0 τ0 k d n sp lo T lv op nv bl ms hh) (v : Int32) : C0 (q_si τ0 45 0 v) k d n sp lo T lv op nv bl ms hh := by
  obtain ⟨a, b, c, d1, e, f, g1, h1⟩ := h
  have w : ∀ i, i ≠ 0 → q_i (q_si τ0 45 0 v) 45 i = q_i τ0 45 i := fun i hi => by rw [q_i_si, if_pos rfl, upd_ne hi]
  refine ⟨?_, ?_, ?_, d1, e, f, g1, h1⟩
  · rw [w 1 (by decide), w 2 (by decide), w 3 (by decide), w 4 (by decide), w 6 (by decide), w 7 (by decide)]; exact a
  · rw [w 10 (by decide)]; exact b
  · rw [w 11 (by decide)]; exact c
theorem c_search {τ0 : kT} {k d n sp lo : Nat} {lv : Int32} {s : Nat → Int32} (hS : Sz k d n sp lo (cT lo k) lv) (h0 : C0 τ0 k d n sp lo (cT lo k) lv (opS s) (nvS s lo) (blS s) (msS s) (hhS s)) (hlc : ∀ c, c < n → lcS s lo c ≤ 9) (h51 : lo < k → ∀ c, c < n → q_i τ0 51 (5 * lo + c) = nI (lcS s lo c)) {post : Int32 → kT → Prop} (hP : PostC (q_si τ0 45 0 0) k d n lo (opS s) (lcS s lo) (cT lo k * n) 0 (oS s lo k d n sp) post) : T_X3_search τ0 post := by
  obtain ⟨z1, z2, z3, z4, z5, z6, -⟩ := id hS
  intro τ1 h1
  have h0' := h0.tr (τ0 := τ0) 0
  rw [← h1] at h0' hP
  obtain ⟨⟨a1, a2, a3, a4, a5, a6⟩, -⟩ := id h0'
  have R00 : ∀ g, CRel τ1 τ1 k d n lo (opS s) (lcS s lo) 0 0 g 0 := fun g => ⟨⟨fun _ _ _ _ => rfl, fun _ => rfl, fun _ _ => rfl, by rw [h1]; rfl⟩, fun q hq => absurd hq (by omega), fun hl c hc => by rw [h1]; exact h51 hl c hc, fun q hq => absurd hq (by omega)⟩
  rw [a5]
  by_cases t0 : cT lo k = 0
  · have m0 : cT lo k * n = 0 := by rw [t0, Nat.zero_mul]
    have e : oS s lo k d n sp = (cif (nmP (opS s) (nvS s lo) (hhS s) (blS s) (lcS s lo) lo n (cT lo k) k d (fun _ => 0)) 1 0, (fun _ => 0), 0) := by
      unfold oS
      rw [m0]
      unfold tryP
      rfl
    rw [e] at hP
    refine bn_f (by rw [t0]; rfl) ?_
    refine c_never hS h0' hlc (g := fun _ => 0) (tr := 0) (by rw [m0]; exact R00 _) (fun y => br_f (by decide) (hP.2.1 (cif_t y) τ1 (by rw [m0]; exact R00 _))) (fun y => br_t rfl (hP.1 (cif_f y) τ1 (R00 _)))
  · refine bn_t (fun y => t0 ((nI_eq (b := 0) (by omega) (by decide)).mp y)) ?_
    obtain ⟨r, hr⟩ : ∃ r, cT lo k * n = r + 1 := ⟨cT lo k * n - 1, by have := Nat.mul_pos (Nat.pos_of_ne_zero t0) z3; omega⟩
    have M30 : cT lo k * n ≤ 6 * 5 := Nat.mul_le_mul z6 z4
    have p0 : cT lo k * n - (r + 1) = 0 := by omega
    have eo : oS s lo k d n sp = tryP (stP (opS s) (msS s) (lcS s lo) (lo < k) lo n d sp) (nmP (opS s) (nvS s lo) (hhS s) (blS s) (lcS s lo) lo n (cT lo k) k d) (cT lo k * n) (r + 1) (fun _ => 0) 0 := by unfold oS; rw [← hr]
    have := c_tryP hS h0' hlc (hx_all z3) r (31 - (r + 1)) (fun _ => 0) 0 τ1 post (by omega) (by omega) (by rw [p0]; exact R00 _) (by rw [p0, ← eo]; exact hP)
    rw [p0, Nat.zero_div, Nat.zero_mod, show r + 1 + (31 - (r + 1)) = 31 by omega] at this
    exact this
/-- what is there behind remember() and carryOut() -/
def CO (τr τ1 : kT) (s : Nat → Int32) (d n lo T : Nat) (g : Nat → Nat) : Prop := (∀ x, x ≠ 5 → x ≠ 10 → x ≠ 11 → q_i τ1 x = q_i τr x) ∧ (∀ x, q_l τ1 x = q_l τr x) ∧ (∀ t, t < T → q_i τ1 10 (key lo t) = nI n) ∧ (∀ y, (∀ t, t < T → y ≠ key lo t) → q_i τ1 10 y = q_i τr 10 y) ∧ (∀ t, t < T → ∀ c, c < n → q_i τ1 11 (key lo t * 18 + c) = nI (g (t * n + c))) ∧ (∀ i, (∀ t, t < T → ∀ c, c < n → i ≠ key lo t * 18 + c) → q_i τ1 11 i = q_i τr 11 i) ∧ (∀ j, j < d → opened (opS s) lo T j → ∀ c, c < n → q_i τ1 5 (cyS s j * 18 + c) = nI (mk (opS s) lo n g j c T)) ∧ (∀ i, (∀ j, j < d → opened (opS s) lo T j → ∀ c, c < n → i ≠ cyS s j * 18 + c) → q_i τ1 5 i = q_i τr 5 i)
theorem c_after {τ τ0 : kT} {k d n sp lo : Nat} {lv : Int32} (hJ : J τ) (hF : FR τ τ0) (hS : Sz k d n sp lo (cT lo k) lv) (h0 : C0 τ0 k d n sp lo (cT lo k) lv (opS (q_i τ 67)) (nvS (q_i τ 67) lo) (blS (q_i τ 67)) (msS (q_i τ 67)) (hhS (q_i τ 67))) (hkn : k ≤ N (q_i τ 67) 8523) (hdn : d ≤ N (q_i τ 67) 8525) (hD : DOK (q_i τ 67) d n) (hlc : ∀ c, c < n → lcS (q_i τ 67) lo c ≤ 9) (h51 : lo < k → ∀ c, c < n → q_i τ0 51 (5 * lo + c) = nI (lcS (q_i τ 67) lo c)) {post : Int32 → kT → Prop}
    (hP0 : (oS (q_i τ 67) lo k d n sp).1 = 0 → ∀ τ2, FR τ τ2 → q_i τ2 45 0 = nI (oS (q_i τ 67) lo k d n sp).2.2 → post 0 τ2) (hP2 : (oS (q_i τ 67) lo k d n sp).1 = 2 → ∀ τ2, FR τ τ2 → q_i τ2 45 0 = nI (oS (q_i τ 67) lo k d n sp).2.2 → post (-5) τ2) (hP1 : (oS (q_i τ 67) lo k d n sp).1 = 1 → ∀ τ2 τr τ1, FR τ τ2 → q_i τ2 45 0 = nI (oS (q_i τ 67) lo k d n sp).2.2 → remP τ2 τr → CO τr τ1 (q_i τ 67) d n lo (cT lo k) (oS (q_i τ 67) lo k d n sp).2.1 → post 1 τ1) : T_X3_search τ0 (fun r17 τ18 => ((¬ r17 = (1 : Int32) → post r17 τ18) ∧ (r17 = (1 : Int32) → (T_X10_remember τ18 (fun τ21 => (T_X3_carryOut τ21 (fun τ23 => post r17 τ23))))))) := by
  obtain ⟨z1, z2, z3, z4, z5, z6, -⟩ := id hS
  have h0' := h0.tr (τ0 := τ0) 0
  have toF : ∀ {τ2 : kT} {pc ph tr : Nat} {g : Nat → Nat}, CRel (q_si τ0 45 0 0) τ2 k d n lo (opS (q_i τ 67)) (lcS (q_i τ 67) lo) pc ph g tr → FR τ τ2 := by
    intro τ2 pc ph tr g h
    refine ⟨fun x hx => ?_, fun x => ?_⟩
    · rw [h.1.1 x (by omega) (by omega) (by omega), q_i_si, if_neg (by omega)]; exact hF.1 x hx
    · rw [h.1.2.1 x]; exact hF.2 x
  refine c_search hS h0 hlc h51 ⟨fun o0 τ2 h2 => bn_t (by decide) (hP0 o0 τ2 (toF h2) h2.1.2.2.2), fun o1 τ2 h2 => bn_f rfl ?_, fun o2 τ2 h2 => bn_t (by decide) (hP2 o2 τ2 (toF h2) h2.1.2.2.2)⟩
  have hF2 := toF h2
  have e67 : q_i τ2 67 = q_i τ 67 := hF2.1 67 (by decide)
  have jb : JB τ2 := ⟨by rw [e67]; exact hJ.1, by rw [e67]; exact hJ.2.1.congr (fun x hx => hF2.1 _ (by omega)) ⟨hF2.2 _, hF2.2 _⟩, trivial⟩
  refine s_rememberB jb (fun τr hr => ?_)
  obtain ⟨nk, hnk, k1, k2, k3⟩ := hJ.nk
  obtain ⟨nc, hnc, c1, c2, c3⟩ := hJ.nc
  have gr : ∀ x, 1 ≤ x → x < 20 → q_i τr x = q_i τ x := fun x x1 x2 => by rw [hr.1 x (by omega) (by omega)]; exact hF2.1 x (by omega)
  have gh : ∀ x, 39 ≤ x → q_i τr x = q_i τ2 x := fun x x1 => hr.1 x (by omega) (by omega)
  have hdl := hJ.1.bnd
  refine c_out (τ0 := q_si τ0 45 0 0) (cy := cyS (q_i τ 67)) (g := (oS (q_i τ 67) lo k d n sp).2.1) (nk := nk) (nc := nc) hS h0' (fun i hi => by rw [gh 45 (by decide)]; exact h2.1.2.2.1 i hi) (by rw [gh 46 (by decide)]; exact h2.1.1 46 (by decide) (by decide) (by decide)) (by rw [gr 9 (by decide) (by decide)]; exact k1) hnk (by omega) (by rw [gr 2 (by decide) (by decide)]; exact c1) hnc (fun q hq => by rw [gh 51 (by decide)]; exact (h2.2.1 q hq).1) (fun T0 j hj c hc => ?_) (fun j hj => ?_) (fun τ1 y1 y2 y3 y4 y5 y6 y7 y8 => hP1 o1 τ2 τr τ1 hF2 h2.1.2.2.2 hr ⟨y1, y2, y3, y4, y5, y6, y7, y8⟩)
  · rw [gh _ (by omega)]
    have hq := dm_lt (T := cT lo k) hc (t := cT lo k - 1) (by omega)
    have := h2.2.2.2 _ hq j hj
    rw [(dm_of hc).1, (dm_of hc).2, show cT lo k - 1 + 1 = cT lo k by omega] at this
    exact this
  · obtain ⟨p1, p2, p3, p4, p5⟩ := hD j hj
    refine ⟨?_, by rw [← c3]; exact p2, ?_, p5⟩
    · rw [gr 19 (by decide) (by decide)]
      exact (hJ.2.1.1 (13, j, 0) ⟨Nat.lt_of_lt_of_le hj hdn, rfl⟩).trans p1
    · rw [gr 4 (by decide) (by decide)]
      exact (hJ.2.1.1 (2, _, 0) ⟨p2, rfl⟩).trans p4
