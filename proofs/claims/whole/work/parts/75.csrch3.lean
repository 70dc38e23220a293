/-! ===== every NEVER is met ===== -/
theorem c_opened {τ0 τ : kT} {k d n sp lo T : Nat} {lv : Int32} {op nv : Nat → Nat → Bool} {bl : Nat → Bool} {ms : Nat → Nat} {hh : Nat → Nat → Nat} (hS : Sz k d n sp lo T lv) (h0 : C0 τ0 k d n sp lo T lv op nv bl ms hh) (h45 : ∀ i, i ≠ 0 → q_i τ 45 i = q_i τ0 45 i) {j : Nat} (hj : j < d) {post : Int32 → kT → Prop} (h1 : (∃ t, t < T ∧ op (key lo t) j = true) → post 1 τ) (hf : ¬ (∃ t, t < T ∧ op (key lo t) j = true) → post 0 τ) : T_X3_isOpened (nI j) τ post := by
  obtain ⟨z1, z2, z3, z4, z5, z6, -⟩ := hS
  obtain ⟨⟨-, -, -, -, a5, -⟩, ⟨od, o1, o2, o3⟩, -⟩ := h0
  unfold T_X3_isOpened
  rw [h45 6 (by decide), h45 10 (by decide), a5, o2]
  by_cases t0 : T = 0
  · refine br_t (by rw [t0]; decide) (hf ?_)
    rintro ⟨t, ht, -⟩
    omega
  · refine br_f (by show ¬ nI T ≤ nI 0; exact nI_ge (by omega) (by omega)) ⟨fun q => hf (fun y => ?_), fun q => h1 ?_⟩
    · rw [b_tst o1 (by omega)] at q
      rw [(o3 j hj).mpr y] at q
      exact absurd q (by decide)
    · refine (o3 j hj).mp ?_
      cases z : od.testBit j with
      | true => rfl
      | false => exact absurd ((b_tst o1 (by omega)).mpr z) q
theorem c_bar_loop {τ : kT} {n x y j : Nat} {m w : Nat → Nat} (h3 : q_i τ 45 3 = nI n) (h5 : n ≤ 5) (hx : k_sh x = (1, 30, []) ∧ x < 80) (hy : y < 6) (hj : j < 6) (hm : ∀ c, c < n → q_i τ x (j * 5 + c) = nI (m c) ∧ m c < 1024) (hw : ∀ c, c < n → q_i τ 51 (5 * y + c) = nI (w c) ∧ w c ≤ 9) {post : Int32 → kT → Prop} (h1 : (∃ c, c < n ∧ m c ≠ 0 ∧ (m c).testBit (w c) = false) → post 1 τ) (hf : ¬ (∃ c, c < n ∧ m c ≠ 0 ∧ (m c).testBit (w c) = false) → post 0 τ) : ∃ m13 : Nat, L_X3_isBarred_43 (nI y) (nI j) x (fun v14 τ15 => post (0 : Int32) τ15) post m13 (0 : Int32) τ := by
  have loop : ∀ i c, c + i = n → (∀ c', c' < c → ¬ (m c' ≠ 0 ∧ (m c').testBit (w c') = false)) → L_X3_isBarred_43 (nI y) (nI j) x (fun v14 τ15 => post (0 : Int32) τ15) post (i + 1) (nI c) τ := by
    intro i
    induction i with
    | zero =>
      intro c hc hs
      have hc : c = n := by omega
      subst hc
      unfold L_X3_isBarred_43
      refine br_t (by rw [h3]; exact nI_le (Nat.le_refl _) (by omega)) (hf ?_)
      rintro ⟨c, hc, q⟩
      exact hs c hc q
    | succ i ih =>
      intro c hc hs
      obtain ⟨m1, m2⟩ := hm c (by omega)
      obtain ⟨w1, w2⟩ := hw c (by omega)
      have nx : ¬ (m c ≠ 0 ∧ (m c).testBit (w c) = false) → L_X3_isBarred_43 (nI y) (nI j) x (fun v14 τ15 => post (0 : Int32) τ15) post (i + 1) (nI (c + 1)) τ := by
        intro q
        refine ih (c + 1) (by omega) (fun c' hc' => ?_)
        by_cases e : c' = c
        · rw [e]; exact q
        · exact hs c' (by omega)
      unfold L_X3_isBarred_43
      refine br_f (by rw [h3]; exact nI_ge (by omega) (by omega)) ⟨hx.1, hx.2, j * 5 + c, ix5 j c, by omega, fun v7 h7 => ?_⟩
      rw [m1] at h7
      subst h7
      refine ⟨fun q v9 h9 => ?_, fun q => ⟨y * 5 + c, ix5 y c, by omega, ?_⟩⟩
      · rw [h9, show nI c + 1 = nI (c + 1) from nI_1 c]
        exact nx (fun z => z.1 ((nI_eq (b := 0) (by omega) (by decide)).mp q))
      · rw [show y * 5 + c = 5 * y + c by omega, w1]
        refine ⟨fun q2 v12 h12 => ?_, fun q2 => h1 ⟨c, by omega, fun z => q (by rw [z]; rfl), (b_tst (by omega) (by omega)).mp q2⟩⟩
        rw [h12, show nI c + 1 = nI (c + 1) from nI_1 c]
        exact nx (fun z => q2 ((b_tst (by omega) (by omega)).mpr z.2))
  exact ⟨n + 1, loop n 0 (by omega) (fun c' hc' => absurd hc' (by omega))⟩
theorem shh_53 : ∀ i, i < 6 → k_sh (53 + i) = (1, 30, []) ∧ 53 + i < 80 := by decide
theorem CRel.cutOf {τ0 τ : kT} {k d n sp lo T ph tr : Nat} {lv : Int32} {op : Nat → Nat → Bool} {lc g : Nat → Nat} (hS : Sz k d n sp lo T lv) (hlc : ∀ c, c < n → lc c ≤ 9) (hR : CRel τ0 τ k d n lo op lc (T * n) ph g tr) {y : Nat} (hy : y < k) : ∀ c, c < n → q_i τ 51 (5 * y + c) = nI (gk g lc lo n y c) ∧ gk g lc lo n y c ≤ 9 := by
  intro c hc
  unfold gk
  by_cases e : y = lo
  · rw [if_pos e, e]
    exact ⟨hR.2.2.1 (by omega) c hc, hlc c hc⟩
  · rw [if_neg e]
    have ht := hS.2.2.2.2.2.2.2.2.2 y hy e
    have := hR.2.1 _ (dm_lt hc ht)
    rw [ix_of hc] at this
    have ek : key lo (if y < lo then y else y - 1) = y := by
      unfold key
      by_cases q : y < lo
      · rw [if_pos q, if_pos q]
      · rw [if_neg q, if_neg (by omega)]; omega
    rw [ek] at this
    exact this
theorem c_barred {τ0 τ : kT} {k d n sp lo T : Nat} {lv : Int32} {op nv : Nat → Nat → Bool} {bl : Nat → Bool} {ms lc : Nat → Nat} {hh : Nat → Nat → Nat} (hS : Sz k d n sp lo T lv) (h0 : C0 τ0 k d n sp lo T lv op nv bl ms hh) (hlc : ∀ c, c < n → lc c ≤ 9) {tr : Nat} {g : Nat → Nat} (hR : CRel τ0 τ k d n lo op lc (T * n) (T * n) g tr) {y j : Nat} (hy : y < k) (hj : j < d) {post : Int32 → kT → Prop} (h1 : barP op hh bl lc lo n T g y j → post 1 τ) (hf : ¬ barP op hh bl lc lo n T g y j → post 0 τ) : T_X3_isBarred (nI y) (nI j) τ post := by
  obtain ⟨z1, z2, z3, z4, z5, z6, -⟩ := id hS
  obtain ⟨⟨a1, a2, a3, a4, a5, a6⟩, -, ⟨bm, m1, m2, m3⟩, -, -, -, -, b8⟩ := id h0
  have e453 : q_i τ 45 3 = nI n := by rw [hR.1.2.2.1 3 (by decide)]; exact a3
  have gkk := hR.cutOf hS hlc hy
  unfold T_X3_isBarred
  rw [hR.1.2.2.1 11 (by decide), m2]
  refine ⟨fun q => ?_, fun q => h1 (Or.inl ?_)⟩
  · rw [b_tst m1 (by omega), m3 j hj] at q
    refine c_opened hS h0 hR.1.2.2.1 hj (fun ho => br_f (by decide) ?_) (fun ho => br_t rfl ?_)
    · have T0 : 0 < T := by obtain ⟨t, ht, -⟩ := ho; omega
      have nz : ∀ c, mk op lo n g j c T ≠ 0 := fun c hc => by
        obtain ⟨t, ht, w⟩ := ho
        rw [(mk_0 T).mp hc t ht] at w
        exact absurd w (by decide)
      have eM : ∀ c, Mk op hh lo n T g j c = mk op lo n g j c T := fun c => if_neg (nz c)
      refine ⟨T - 1, by rw [hR.1.2.2.1 6 (by decide), a5, i_eq, i_m1 (by omega), nI_toInt (by omega)]; omega, by omega, ?_⟩
      refine c_bar_loop (m := fun c => mk op lo n g j c T) (w := fun c => gk g lc lo n y c) e453 z4 (shh_53 _ (by omega)) (by omega) (by omega) (fun c hc => ?_) gkk (fun ⟨c, c1, c2, c3⟩ => h1 (Or.inr ⟨c, c1, by rw [eM]; exact c2, by rw [eM]; exact c3⟩)) (fun w => hf (fun y => ?_))
      · have hq := dm_lt (T := T) hc (t := T - 1) (by omega)
        have := hR.2.2.2 _ hq j hj
        rw [(dm_of hc).1, (dm_of hc).2, show T - 1 + 1 = T by omega] at this
        refine ⟨this, mk_lt T (fun t ht => (hR.2.1 _ (dm_lt hc ht)).2)⟩
      · rcases y with y | ⟨c, c1, c2, c3⟩
        · rw [q] at y; exact absurd y (by decide)
        · rw [eM] at c2 c3
          exact w ⟨c, c1, c2, c3⟩
    · have eM : ∀ c, Mk op hh lo n T g j c = hh j c := fun c => if_pos ((mk_0 T).mpr (fun t ht => by
        cases z : op (key lo t) j with
        | false => rfl
        | true => exact absurd ⟨t, ht, z⟩ ho))
      refine c_bar_loop (m := fun c => hh j c) (w := fun c => gk g lc lo n y c) e453 z4 ⟨rfl, by decide⟩ (by omega) (by omega) (fun c hc => ?_) gkk (fun ⟨c, c1, c2, c3⟩ => h1 (Or.inr ⟨c, c1, by rw [eM]; exact c2, by rw [eM]; exact c3⟩)) (fun w => hf (fun y => ?_))
      · rw [hR.1.1 50 (by decide) (by decide) (by decide)]; exact b8 j hj c hc
      · rcases y with y | ⟨c, c1, c2, c3⟩
        · rw [q] at y; exact absurd y (by decide)
        · rw [eM] at c2 c3
          exact w ⟨c, c1, c2, c3⟩
  · cases z : bl j with
    | true => rfl
    | false => exact absurd ((b_tst m1 (by omega)).mpr ((m3 j hj).trans z)) q
theorem c_never {τ0 τ : kT} {k d n sp lo T : Nat} {lv : Int32} {op nv : Nat → Nat → Bool} {bl : Nat → Bool} {ms lc : Nat → Nat} {hh : Nat → Nat → Nat} (hS : Sz k d n sp lo T lv) (h0 : C0 τ0 k d n sp lo T lv op nv bl ms hh) (hlc : ∀ c, c < n → lc c ≤ 9) {tr : Nat} {g : Nat → Nat} (hR : CRel τ0 τ k d n lo op lc (T * n) (T * n) g tr) {post : Int32 → kT → Prop} (h1 : nmP op nv hh bl lc lo n T k d g → post 1 τ) (hf : ¬ nmP op nv hh bl lc lo n T k d g → post 0 τ) : T_X3_everyNeverIsMet τ post := by
  obtain ⟨z1, z2, z3, z4, z5, z6, -⟩ := id hS
  obtain ⟨⟨a1, a2, a3, a4, a5, a6⟩, -, -, -, -, b6, -⟩ := id h0
  have e451 : q_i τ 45 1 = nI k := by rw [hR.1.2.2.1 1 (by decide)]; exact a1
  have e452 : q_i τ 45 2 = nI d := by rw [hR.1.2.2.1 2 (by decide)]; exact a2
  have inner : ∀ {y : Nat} (hy : y < k) {K : Int32 → kT → Prop}, ((∀ j, j < d → nv y j = true → barP op hh bl lc lo n T g y j) → ∀ v, K v τ) → ∃ m10 : Nat, L_X3_everyNeverIsMet_12 (nI y) K post m10 (0 : Int32) τ := by
    intro y hy K hK
    obtain ⟨m, m1, m2, m3⟩ := b6 y hy
    have loop : ∀ i j, j + i = d → (∀ j', j' < j → nv y j' = true → barP op hh bl lc lo n T g y j') → L_X3_everyNeverIsMet_12 (nI y) K post (i + 1) (nI j) τ := by
      intro i
      induction i with
      | zero =>
        intro j hj hs
        have hj : j = d := by omega
        subst hj
        unfold L_X3_everyNeverIsMet_12
        exact br_t (by rw [e452]; exact nI_le (Nat.le_refl _) (by omega)) (hK hs _)
      | succ i ih =>
        intro j hj hs
        have hjd : j < d := by omega
        have nx : (nv y j = true → barP op hh bl lc lo n T g y j) → L_X3_everyNeverIsMet_12 (nI y) K post (i + 1) (nI (j + 1)) τ := by
          intro q
          refine ih (j + 1) (by omega) (fun j' hj' => ?_)
          by_cases e : j' = j
          · rw [e]; exact q
          · exact hs j' (by omega)
        unfold L_X3_everyNeverIsMet_12
        refine br_f (by rw [e452]; exact nI_ge (by omega) (by omega)) ⟨y, rfl, by omega, ?_⟩
        rw [hR.1.1 48 (by decide) (by decide) (by decide), m2]
        refine ⟨fun q v5 h5 => ?_, fun q => ?_⟩
        · rw [b_tst m1 (by omega), m3 j hjd] at q
          rw [h5, show nI j + 1 = nI (j + 1) from nI_1 j]
          exact nx (fun w => absurd (q.symm.trans w) (by decide))
        · have q2 : nv y j = true := by
            cases z : nv y j with
            | true => rfl
            | false => exact absurd ((b_tst m1 (by omega)).mpr ((m3 j hjd).trans z)) q
          refine c_barred hS h0 hlc hR hy hjd (fun w => bn_t (by decide) (fun v9 h9 => ?_)) (fun w => bn_f rfl (hf (fun z => w (z y hy j hjd q2))))
          rw [h9, show nI j + 1 = nI (j + 1) from nI_1 j]
          exact nx (fun _ => w)
    exact ⟨d + 1, loop d 0 (by omega) (fun j' hj' => absurd hj' (by omega))⟩
  have outer : ∀ i y, y + i = k → (∀ y', y' < y → ∀ j, j < d → nv y' j = true → barP op hh bl lc lo n T g y' j) → L_X3_everyNeverIsMet_2 (fun v15 τ16 => post (1 : Int32) τ16) post (i + 1) (nI y) τ := by
    intro i
    induction i with
    | zero =>
      intro y hy hs
      have hy : y = k := by omega
      subst hy
      unfold L_X3_everyNeverIsMet_2
      exact br_t (by rw [e451]; exact nI_le (Nat.le_refl _) (by omega)) (h1 hs)
    | succ i ih =>
      intro y hy hs
      unfold L_X3_everyNeverIsMet_2
      refine br_f (by rw [e451]; exact nI_ge (by omega) (by omega)) (inner (by omega) (fun w v v13 h13 => ?_))
      rw [h13, show nI y + 1 = nI (y + 1) from nI_1 y]
      refine ih (y + 1) (by omega) (fun y' hy' => ?_)
      by_cases e : y' = y
      · rw [e]; exact w
      · exact hs y' (by omega)
  exact ⟨k + 1, outer k 0 (by omega) (fun y' hy' => absurd hy' (by omega))⟩
/-! ===== trying ===== -/
def PostC (τ0 : kT) (k d n lo : Nat) (op : Nat → Nat → Bool) (lc : Nat → Nat) (M p : Nat) (o : Out) (post : Int32 → kT → Prop) : Prop :=
  (o.1 = 0 → ∀ τ2, CRel τ0 τ2 k d n lo op lc p p o.2.1 o.2.2 → post 0 τ2) ∧ (o.1 = 1 → ∀ τ2, CRel τ0 τ2 k d n lo op lc M M o.2.1 o.2.2 → post 1 τ2) ∧ (o.1 = 2 → ∀ τ2, CRel τ0 τ2 k d n lo op lc 0 0 o.2.1 o.2.2 → post (-5) τ2)
theorem CRel.tr {τ0 τ : kT} {k d n lo p tr : Nat} {op : Nat → Nat → Bool} {lc g : Nat → Nat} (h : CRel τ0 τ k d n lo op lc p p g tr) (v : Nat) : CRel τ0 (q_si τ 45 0 (nI v)) k d n lo op lc p p g v := by
  obtain ⟨⟨h1, h2, h3, h4⟩, h5, h6, h7⟩ := h
  refine ⟨⟨fun x n1 n2 n3 => by rw [q_i_si, if_neg n1]; exact h1 x n1 n2 n3, h2, fun i hi => by rw [q_i_si, if_pos rfl, upd_ne hi]; exact h3 i hi, by rw [q_i_si, if_pos rfl, upd_eq]⟩, h5, h6, fun q hq j hj => ?_⟩
  have g := h7 q hq j hj
  generalize q / n = a at g ⊢
  rw [q_i_si, if_neg (by omega)]
  exact g
theorem c_tryV {τ0 : kT} {k d n sp lo T : Nat} {lv : Int32} {op nv : Nat → Nat → Bool} {bl : Nat → Bool} {ms lc : Nat → Nat} {hh : Nat → Nat → Nat} (hS : Sz k d n sp lo T lv) (h0 : C0 τ0 k d n sp lo T lv op nv bl ms hh) (hlc : ∀ c, c < n → lc c ≤ 9) {p : Nat} (hp : p < T * n) {nxt : (Nat → Nat) → Nat → Out} {TR : Int32 → Int32 → kT → (Int32 → kT → Prop) → Prop}
    (hx : ∀ g tr, tr ≤ 4000 → (nxt g tr).2.2 ≤ 4000 ∧ ((nxt g tr).1 = 0 ∨ (nxt g tr).1 = 1 ∨ (nxt g tr).1 = 2))
    (hgo : ∀ g tr τ post, tr ≤ 4000 → CRel τ0 τ k d n lo op lc (p + 1) (p + 1) g tr → PostC τ0 k d n lo op lc (T * n) (p + 1) (nxt g tr) post → T_X3_goOn TR (nI (p / n)) (nI (p % n)) τ post) : ∀ m g tr τ post, m ≤ 10 → tr ≤ 4000 → CRel τ0 τ k d n lo op lc p p g tr → PostC τ0 k d n lo op lc (T * n) p (tryV (stP op ms lc (lo < k) lo n d sp) nxt p m g tr) post → L_X3_tryCuts_20 TR (nI (p / n)) (nI (p % n)) (fun v16 τ17 => post (0 : Int32) τ17) post (m + 1) (nI (10 - m)) τ := by
  intro m
  induction m with
  | zero =>
    intro g tr τ post hm ht hR hP
    unfold L_X3_tryCuts_20
    exact br_t (by decide) (hP.1 rfl τ hR)
  | succ m ih =>
    intro g tr τ post hm ht hR hP
    unfold L_X3_tryCuts_20
    refine br_f (nI_nlt (a := 9) (by omega) (by omega)) ?_
    rw [hR.1.2.2.2]
    by_cases q : 4000 ≤ tr
    · refine br_f (nI_nlt (b := 4000) (by omega) (by omega)) ?_
      have e : tryV (stP op ms lc (lo < k) lo n d sp) nxt p (m + 1) g tr = (2, g, tr) := by unfold tryV; rw [if_pos q]
      rw [e] at hP
      exact hP.2.2 rfl τ (hR.mono (by omega) (by omega))
    · refine br_t (nI_lt (b := 4000) (by omega) (by decide)) (fun τ5 h5 => ?_)
      have h5 : τ5 = q_si τ 45 0 (nI (tr + 1)) := by rw [h5]; exact congrArg (q_si τ 45 0) (nI_1 tr)
      subst h5
      have e : tryV (stP op ms lc (lo < k) lo n d sp) nxt p (m + 1) g tr = (fun r : Out => if r.1 = 0 then tryV (stP op ms lc (lo < k) lo n d sp) nxt p m r.2.1 r.2.2 else r) (cif (stP op ms lc (lo < k) lo n d sp (updN g p (9 - m)) p) (nxt (updN g p (9 - m)) (tr + 1)) (0, updN g p (9 - m), tr + 1)) := by
        conv => lhs; unfold tryV
        rw [if_neg q]
      rw [e] at hP
      have nx : ∀ (g2 : Nat → Nat) (tr2 : Nat) (v : Int32) (τ2 : kT), tr2 ≤ 4000 → v = nI (10 - (m + 1)) + 1 → CRel τ0 τ2 k d n lo op lc p p g2 tr2 → PostC τ0 k d n lo op lc (T * n) p (tryV (stP op ms lc (lo < k) lo n d sp) nxt p m g2 tr2) post → L_X3_tryCuts_20 TR (nI (p / n)) (nI (p % n)) (fun v16 τ17 => post (0 : Int32) τ17) post (m + 1) v τ2 := by
        intro g2 tr2 v τ2 h2 hv hR2 hP2
        rw [hv, show nI (10 - (m + 1)) + 1 = nI (10 - (m + 1) + 1) from nI_1 _, show 10 - (m + 1) + 1 = 10 - m by omega]
        exact ih g2 tr2 τ2 post (by omega) h2 hR2 hP2
      have ev : nI (10 - (m + 1)) = nI (9 - m) := by rw [show 10 - (m + 1) = 9 - m by omega]
      rw [ev] at nx ⊢
      refine c_stands hS h0 (fun c hc => by have := hlc c hc; omega) hp (by omega) (hR.tr (tr + 1)) (fun z τ2 h2 => br_f (by decide) ?_) (fun z τ2 h2 => br_t rfl (br_t rfl (fun v10 h10 => ?_)))
      · rw [cif_t z] at hP
        obtain ⟨x1, x2⟩ := hx (updN g p (9 - m)) (tr + 1) (by omega)
        refine hgo _ _ τ2 _ (by omega) h2 ⟨fun o0 τ3 h3 => br_t rfl (fun v14 h14 => ?_), fun o1 τ3 h3 => br_f (by decide) ?_, fun o2 τ3 h3 => br_f (by decide) ?_⟩
        · simp only [o0, if_true] at hP
          exact nx _ _ v14 τ3 x1 h14 (h3.mono (by omega) (by omega)) hP
        · have hP2 : PostC τ0 k d n lo op lc (T * n) p (nxt (updN g p (9 - m)) (tr + 1)) post := by
            have n0 : ¬ (nxt (updN g p (9 - m)) (tr + 1)).1 = 0 := by omega
            simp only [n0, if_false] at hP
            exact hP
          exact hP2.2.1 o1 τ3 h3
        · have hP2 : PostC τ0 k d n lo op lc (T * n) p (nxt (updN g p (9 - m)) (tr + 1)) post := by
            have n0 : ¬ (nxt (updN g p (9 - m)) (tr + 1)).1 = 0 := by omega
            simp only [n0, if_false] at hP
            exact hP
          exact hP2.2.2 o2 τ3 h3
      · rw [cif_f z] at hP
        simp only [if_true] at hP
        exact nx _ _ v10 τ2 (by omega) h10 h2 hP
theorem c_tryP {τ0 : kT} {k d n sp lo T : Nat} {lv : Int32} {op nv : Nat → Nat → Bool} {bl : Nat → Bool} {ms lc : Nat → Nat} {hh : Nat → Nat → Nat} (hS : Sz k d n sp lo T lv) (h0 : C0 τ0 k d n sp lo T lv op nv bl ms hh) (hlc : ∀ c, c < n → lc c ≤ 9)
    (hx : ∀ r, r ≤ T * n → ∀ g tr, tr ≤ 4000 → (tryP (stP op ms lc (lo < k) lo n d sp) (nmP op nv hh bl lc lo n T k d) (T * n) r g tr).2.2 ≤ 4000 ∧ ((tryP (stP op ms lc (lo < k) lo n d sp) (nmP op nv hh bl lc lo n T k d) (T * n) r g tr).1 = 0 ∨ (tryP (stP op ms lc (lo < k) lo n d sp) (nmP op nv hh bl lc lo n T k d) (T * n) r g tr).1 = 1 ∨ (tryP (stP op ms lc (lo < k) lo n d sp) (nmP op nv hh bl lc lo n T k d) (T * n) r g tr).1 = 2)) : ∀ r e g tr τ post, r + 1 ≤ T * n → tr ≤ 4000 → CRel τ0 τ k d n lo op lc (T * n - (r + 1)) (T * n - (r + 1)) g tr → PostC τ0 k d n lo op lc (T * n) (T * n - (r + 1)) (tryP (stP op ms lc (lo < k) lo n d sp) (nmP op nv hh bl lc lo n T k d) (T * n) (r + 1) g tr) post → T_X3_tryCuts (r + 1 + e) (nI ((T * n - (r + 1)) / n)) (nI ((T * n - (r + 1)) % n)) τ post := by
  obtain ⟨z1, z2, z3, z4, z5, z6, -⟩ := id hS
  obtain ⟨⟨a1, a2, a3, a4, a5, a6⟩, -⟩ := id h0
  intro r
  induction r with
  | zero =>
    intro e g tr τ post hr ht hR hP
    generalize hpp : T * n - (0 + 1) = p at *
    have hp : p < T * n := by omega
    have tT := dm_T z3 hp
    have cn := Nat.mod_lt p z3
    have p6 : p / n < 6 := Nat.lt_of_lt_of_le tT z6
    rw [show 0 + 1 + e = e + 1 by omega]
    unfold T_X3_tryCuts
    refine br_f (by rw [hR.1.2.2.1 6 (by decide), a5]; exact nI_ge tT (by omega)) (br_t (by rw [hR.1.2.2.1 3 (by decide), a3]; exact nI_lt cn (by omega)) ⟨11, ?_⟩)
    have hP' : PostC τ0 k d n lo op lc (T * n) p (tryV (stP op ms lc (lo < k) lo n d sp) (tryP (stP op ms lc (lo < k) lo n d sp) (nmP op nv hh bl lc lo n T k d) (T * n) 0) p 10 g tr) post := by
      have : tryP (stP op ms lc (lo < k) lo n d sp) (nmP op nv hh bl lc lo n T k d) (T * n) (0 + 1) g tr = tryV (stP op ms lc (lo < k) lo n d sp) (tryP (stP op ms lc (lo < k) lo n d sp) (nmP op nv hh bl lc lo n T k d) (T * n) 0) p 10 g tr := by
        conv => lhs; unfold tryP
        rw [hpp]
      rw [← this]; exact hP
    refine c_tryV hS h0 hlc hp (hx 0 (by omega)) (fun g2 tr2 τ2 post2 h2 hR2 hP2 => ?_) 10 g tr τ post (by omega) ht hR hP'
    have pe : p + 1 = T * n := by omega
    have last : p % n + 1 = n ∧ p / n + 1 = T := by
      have d1 : (p + 1) / n = T ∧ (p + 1) % n = 0 := by rw [pe]; exact ⟨Nat.mul_div_cancel _ z3, Nat.mul_mod_left _ _⟩
      by_cases q : p % n + 1 = n
      · exact ⟨q, by rw [← d1.1]; exact (dm_n z3 q).1.symm⟩
      · have := (dm_s (n := n) (p := p) (by omega)).2
        omega
    unfold T_X3_goOn
    rw [show nI (p % n) + 1 = nI (p % n + 1) from nI_1 _, show nI (p / n) + 1 = nI (p / n + 1) from nI_1 _, last.1, last.2]
    refine br_t (by rw [hR2.1.2.2.1 3 (by decide), a3]; exact nI_le (Nat.le_refl _) (by omega)) (br_t (by rw [hR2.1.2.2.1 6 (by decide), a5]; exact nI_le (Nat.le_refl _) (by omega)) ?_)
    rw [pe] at hR2
    refine c_never hS h0 hlc hR2 (fun y => br_f (by decide) (hP2.2.1 (cif_t y) τ2 hR2)) (fun y => br_t rfl (hP2.1 (cif_f y) τ2 (by rw [pe]; exact hR2)))
  | succ r ih =>
    intro e g tr τ post hr ht hR hP
    generalize hpp : T * n - (r + 1 + 1) = p at *
    have hp : p < T * n := by omega
    have tT := dm_T z3 hp
    have cn := Nat.mod_lt p z3
    have p6 : p / n < 6 := Nat.lt_of_lt_of_le tT z6
    rw [show r + 1 + 1 + e = (r + 1 + e) + 1 by omega]
    unfold T_X3_tryCuts
    refine br_f (by rw [hR.1.2.2.1 6 (by decide), a5]; exact nI_ge tT (by omega)) (br_t (by rw [hR.1.2.2.1 3 (by decide), a3]; exact nI_lt cn (by omega)) ⟨11, ?_⟩)
    have hP' : PostC τ0 k d n lo op lc (T * n) p (tryV (stP op ms lc (lo < k) lo n d sp) (tryP (stP op ms lc (lo < k) lo n d sp) (nmP op nv hh bl lc lo n T k d) (T * n) (r + 1)) p 10 g tr) post := by
      have : tryP (stP op ms lc (lo < k) lo n d sp) (nmP op nv hh bl lc lo n T k d) (T * n) (r + 1 + 1) g tr = tryV (stP op ms lc (lo < k) lo n d sp) (tryP (stP op ms lc (lo < k) lo n d sp) (nmP op nv hh bl lc lo n T k d) (T * n) (r + 1)) p 10 g tr := by
        conv => lhs; unfold tryP
        rw [hpp]
      rw [← this]; exact hP
    refine c_tryV hS h0 hlc hp (hx (r + 1) (by omega)) (fun g2 tr2 τ2 post2 h2 hR2 hP2 => ?_) 10 g tr τ post (by omega) ht hR hP'
    have pe : T * n - (r + 1) = p + 1 := by omega
    have go := ih e g2 tr2 τ2 post2 (by omega) h2 (by rw [pe]; exact hR2) (by rw [pe]; exact hP2)
    rw [pe] at go
    have p1 : p + 1 < T * n := by omega
    unfold T_X3_goOn
    rw [show nI (p % n) + 1 = nI (p % n + 1) from nI_1 _, show nI (p / n) + 1 = nI (p / n + 1) from nI_1 _]
    by_cases q : p % n + 1 = n
    · obtain ⟨d1, d2⟩ := dm_n z3 q
      have tT1 := dm_T z3 p1
      rw [d1] at tT1 go
      rw [d2] at go
      refine br_t (by rw [hR2.1.2.2.1 3 (by decide), a3, q]; exact nI_le (Nat.le_refl _) (by omega)) (br_f (by rw [hR2.1.2.2.1 6 (by decide), a5]; exact nI_ge tT1 (by omega)) go)
    · obtain ⟨d1, d2⟩ := dm_s (n := n) (p := p) (by omega)
      rw [d1, d2] at go
      exact br_f (by rw [hR2.1.2.2.1 3 (by decide), a3]; exact nI_ge (by omega) (by omega)) go
