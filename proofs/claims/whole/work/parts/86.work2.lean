theorem core {τ : kT} {k d n sp lo : Nat} {lv : Int32} {REF : kT → (Int32 → kT → Prop) → Prop} (hJ : J τ) (hk : k ≤ 6) (hkn : k ≤ N (q_i τ 67) 8523) (hd : d ≤ 6) (hdn : d ≤ N (q_i τ 67) 8525) (hn0 : 0 < n) (hn : n ≤ 5) (hs : sp < 10) (hl1 : lo < k → lv = nI lo) (hl2 : ¬ lo < k → lv = -1) (hlen : lo < k → q_i τ 67 (2200 + lo) = nI n) (hlc : ∀ c, c < n → lcS (q_i τ 67) lo c ≤ 9) (hREF : ∀ τs post', q_i τs 67 = q_i τ 67 → T_X11_searched lv (nI k) (nI d) (nI n) (nI sp) τs post' → REF τs post') {post : Int32 → kT → Prop} (hpost : ∀ r τ2, T_X10_settle r τ2 (fun r3 τ4 => REF τ4 (fun r2 τ2 => r3 = r2 ∧ J τ2)) → post r τ2) :
    T_X10_doorsRefusal (nI d) (nI n) τ (fun r7 τ8 => ((r7 = 0 → (T_X3_begin (nI k) (nI d) (nI n) (nI sp) τ8 (fun τ11 => (T_X3_readDoors  τ11 (fun τ13 => (T_X3_readKeys lv τ13 (fun τ15 => ((lv = (-1 : Int32) → (T_X3_search  τ15 (fun r17 τ18 => ((¬ r17 = (1 : Int32) → post r17 τ18) ∧ (r17 = (1 : Int32) → (T_X10_remember  τ18 (fun τ21 => (T_X3_carryOut  τ21 (fun τ23 => post r17 τ23))))))))) ∧ (¬ lv = (-1 : Int32) → (T_X10_doorsThatOpen lv τ15 (fun r24 τ25 => (T_X3_passOver lv r24 τ25 (fun τ27 => (T_X3_search  τ27 (fun r28 τ29 => ((¬ r28 = (1 : Int32) → post r28 τ29) ∧ (r28 = (1 : Int32) → (T_X10_remember  τ29 (fun τ32 => (T_X3_carryOut  τ32 (fun τ34 => post r28 τ34))))))))))))))))))))) ∧ (¬ r7 = 0 → post r7 τ8))) := by
  have hI := hJ.1
  obtain ⟨-, -, -, -, -, -, -, -, ⟨t1, t2, t3, -⟩, -⟩ := id hJ
  have hS : Sz k d n sp lo (cT lo k) lv := Sz_of hk hd hn0 hn hs hl1 hl2
  -- the reference, from a state that is near
  have ref : ∀ {τs : kT} {post' : Int32 → kT → Prop}, q_i τs 67 = q_i τ 67 → q_i τs 68 = q_i τ 68 → q_i τs 66 = q_i τ 66 →
      (dr (q_i τ 67) n d 0 = 1 → T_X11_met 1 τs post') → (dr (q_i τ 67) n d 0 = 3 → T_X11_met 3 τs post') → (dr (q_i τ 67) n d 0 = 9 → post' (-3) τs) →
      (dr (q_i τ 67) n d 0 = 0 → (oS (q_i τ 67) lo k d n sp).1 = 0 → ∀ τ2, RF τs τ2 (oS (q_i τ 67) lo k d n sp).2.2 → post' 0 (q_si τ2 66 4 0)) →
      (dr (q_i τ 67) n d 0 = 0 → (oS (q_i τ 67) lo k d n sp).1 = 2 → ∀ τ2, RF τs τ2 (oS (q_i τ 67) lo k d n sp).2.2 → post' (-5) (q_si τ2 66 4 0)) →
      (dr (q_i τ 67) n d 0 = 0 → (oS (q_i τ 67) lo k d n sp).1 = 1 → ∀ τ2 τ3 s', RF τs τ2 (oS (q_i τ 67) lo k d n sp).2.2 → W1 67 (q_si (q_wi τ2 68 (q_i τ2 67)) 66 2 1) τ3 s' → (∀ t, t < cT lo k → s' (2200 + key lo t) = nI n) → (∀ t, t < cT lo k → ∀ c, c < n → s' (2300 + 18 * key lo t + c) = nI ((oS (q_i τ 67) lo k d n sp).2.1 (t * n + c))) → (∀ j, j < d → ∀ c, c < n → s' (400 + 18 * cyS (q_i τ 67) j + c) = nI (Mk (opS (q_i τ 67)) (hhS (q_i τ 67)) lo n (cT lo k) (oS (q_i τ 67) lo k d n sp).2.1 j c)) → (∀ i, (∀ t, t < cT lo k → i ≠ 2200 + key lo t) → (∀ t, t < cT lo k → ∀ c, c < n → i ≠ 2300 + 18 * key lo t + c) → (∀ j, j < d → ∀ c, c < n → i ≠ 400 + 18 * cyS (q_i τ 67) j + c) → s' i = q_i τ 67 i) → post' 1 (q_si τ3 66 4 0)) → REF τs post' := by
    intro τs post' e67 e68 e66 c1 c3 c9 p0 p2 p1
    refine hREF τs post' e67 ?_
    rw [← e67] at c1 c3 c9 p0 p2 p1
    exact r_searched (by rw [e67]; exact hI) ⟨_, t3, by rw [e66]; exact t1.trans t2⟩ (by rw [e67, e68]; exact hJ.hz) hk (by rw [e67]; exact hkn) hd (by rw [e67]; exact hdn) hn0 hn hs hl1 hl2 (fun w => by rw [e67]; exact hlen w) (by rw [e67]; exact hlc) c1 c3 c9 p0 p2 p1
  refine c_refuse hJ hd hdn hn ?_
  rcases dr_v (q_i τ 67) n d 0 with e | e | e | e
  case inr.inl =>
    rw [e]
    refine br_f (by decide) (hpost _ _ (s_settle_met (f := 1) ⟨by decide, by decide⟩ ?_))
    refine ref rfl rfl rfl (fun _ => s_met ⟨by decide, e_met hJ 1⟩) (fun w => absurd (e.symm.trans w) (by decide)) (fun w => absurd (e.symm.trans w) (by decide)) (fun w => absurd (e.symm.trans w) (by decide)) (fun w => absurd (e.symm.trans w) (by decide)) (fun w => absurd (e.symm.trans w) (by decide))
  case inr.inr.inl =>
    rw [e]
    refine br_f (by decide) (hpost _ _ (s_settle_met (f := 3) ⟨by decide, by decide⟩ ?_))
    refine ref rfl rfl rfl (fun w => absurd (e.symm.trans w) (by decide)) (fun _ => s_met ⟨by decide, e_met hJ 3⟩) (fun w => absurd (e.symm.trans w) (by decide)) (fun w => absurd (e.symm.trans w) (by decide)) (fun w => absurd (e.symm.trans w) (by decide)) (fun w => absurd (e.symm.trans w) (by decide))
  case inr.inr.inr =>
    rw [e]
    refine br_f (by decide) (hpost _ _ (s_settle_bad (Or.inr (Or.inl rfl)) ?_))
    refine ref rfl rfl rfl (fun w => absurd (e.symm.trans w) (by decide)) (fun w => absurd (e.symm.trans w) (by decide)) (fun _ => ⟨rfl, hJ⟩) (fun w => absurd (e.symm.trans w) (by decide)) (fun w => absurd (e.symm.trans w) (by decide)) (fun w => absurd (e.symm.trans w) (by decide))
  have no1 : ∀ {P : Prop}, dr (q_i τ 67) n d 0 = 1 → P := fun w => absurd (e.symm.trans w) (by decide)
  have no3 : ∀ {P : Prop}, dr (q_i τ 67) n d 0 = 3 → P := fun w => absurd (e.symm.trans w) (by decide)
  have no9 : ∀ {P : Prop}, dr (q_i τ 67) n d 0 = 9 → P := fun w => absurd (e.symm.trans w) (by decide)
  rw [e]
  have hD : DOK (q_i τ 67) d n := DOK_of hI hdn e
  refine br_t rfl (c_chain hJ hk hd hn hkn hdn hD hl1 hl2 (fun τ15 hF15 h45 hP => ?_))
  -- behind the search
  have after : ∀ τ0, FR τ τ0 → C0 τ0 k d n sp lo (cT lo k) lv (opS (q_i τ 67)) (nvS (q_i τ 67) lo) (blS (q_i τ 67)) (msS (q_i τ 67)) (hhS (q_i τ 67)) → (lo < k → ∀ c, c < n → q_i τ0 51 (5 * lo + c) = nI (lcS (q_i τ 67) lo c)) → T_X3_search τ0 (fun r17 τ18 => ((¬ r17 = (1 : Int32) → post r17 τ18) ∧ (r17 = (1 : Int32) → (T_X10_remember τ18 (fun τ21 => (T_X3_carryOut τ21 (fun τ23 => post r17 τ23))))))) := by
    intro τ0 hF0 h0 h51
    have near : ∀ {τ2 : kT}, FR τ τ2 → ∀ x, 59 ≤ x → q_i (q_si τ2 0 4 0) x = q_i τ x := fun hF x hx => by rw [q_i_si, if_neg (by omega)]; exact hF.1 x (by omega)
    refine c_after hJ hF0 hS h0 hkn hdn hD hlc h51 (fun o0 τ2 hF2 g45 => hpost _ _ (s_settle_n (n := 0) (by decide) ?_)) (fun o2 τ2 hF2 g45 => hpost _ _ (s_settle_ok (r := -5) (by decide) ?_)) (fun o1 τ2 τr τ1 hF2 g45 hr hC => hpost _ _ (s_settle_n (n := 1) (by decide) ?_))
    · refine ref (near hF2 67 (by decide)) (near hF2 68 (by decide)) (near hF2 66 (by decide)) no1 no3 no9 (fun _ _ τ6 h6 => ⟨rfl, J_srch hJ hF2 g45 h6⟩) (fun _ w => absurd (o0.symm.trans w) (by decide)) (fun _ w => absurd (o0.symm.trans w) (by decide))
    · refine ref (near hF2 67 (by decide)) (near hF2 68 (by decide)) (near hF2 66 (by decide)) no1 no3 no9 (fun _ w => absurd (o2.symm.trans w) (by decide)) (fun _ _ τ6 h6 => ⟨rfl, J_srch hJ hF2 g45 h6⟩) (fun _ w => absurd (o2.symm.trans w) (by decide))
    · have near2 : ∀ x, 59 ≤ x → q_i (q_si τ1 0 4 0) x = q_i τ x := fun x hx => by
        rw [q_i_si, if_neg (by omega), hC.1 x (by omega) (by omega) (by omega), hr.1 x (by omega) (by omega)]; exact hF2.1 x (by omega)
      refine ref (near2 67 (by decide)) (near2 68 (by decide)) (near2 66 (by decide)) no1 no3 no9 (fun _ w => absurd (o1.symm.trans w) (by decide)) (fun _ w => absurd (o1.symm.trans w) (by decide)) (fun _ _ τ6 τ3 s' h6 hW l1 l2 l3 l4 => ⟨rfl, ?_⟩)
      exact J_cut hJ hF2 g45 hr hC h6 hW hn0 hn hkn hD o1 l1 l2 l3 l4
  by_cases hl : lo < k
  · have lvn : ¬ lv = -1 := by rw [hl1 hl]; exact nI_m1 (by omega)
    refine br_f lvn ?_
    have e1 := hl1 hl
    rw [e1] at after ⊢
    exact c_pass hJ hF15 h45 hP hl hk hkn hd hdn hn (hlen hl) (fun τ27 hF27 hC27 h51 => after τ27 hF27 hC27 (fun _ => h51))
  · refine br_t (hl2 hl) (after τ15 hF15 ?_ (fun w => absurd w hl))
    obtain ⟨⟨a1, a2, a3, a4, a5, a6⟩, b2, b3, b4, b5, b6, b7, b8⟩ := hP
    exact ⟨⟨a1, a2, a3, a4, a5, a6.trans (hl2 hl).symm⟩, b2, b3, b4, b5, fun y hy => b6 y hy (by omega), b7, b8⟩
/-! the sizes -/
theorem rngI {a : Int32} {l h : Nat} (hh : h < 2 ^ 31) (hlh : l < 2 ^ 31) : (∃ k, a = nI k ∧ l ≤ k ∧ k ≤ h) ↔ ((l : Int) ≤ a.toInt ∧ a.toInt ≤ h) := by
  constructor
  · rintro ⟨k, rfl, h1, h2⟩
    rw [nI_toInt (by omega)]
    omega
  · rintro ⟨h1, h2⟩
    refine ⟨a.toInt.toNat, ?_, by omega, by omega⟩
    rw [i_eq, nI_toInt (by omega)]
    omega
def sizes (a b c e : Int32) : Prop := (∃ k, a = nI k ∧ 1 ≤ k ∧ k ≤ 6) ∧ (∃ d, b = nI d ∧ 1 ≤ d ∧ d ≤ 6) ∧ (∃ n, c = nI n ∧ 1 ≤ n ∧ n ≤ 5) ∧ (∃ s, e = nI s ∧ 0 ≤ s ∧ s ≤ 9)
theorem c_sizes {a b c e : Int32} {τ : kT} {post : Int32 → kT → Prop} (h1 : sizes a b c e → post 1 τ) (h0 : ¬ sizes a b c e → post 0 τ) : T_X10_areCuttingSizes a b c e τ post := by
  have t0 : (0 : Int32).toInt = 0 := rfl
  have t1 : (1 : Int32).toInt = 1 := rfl
  have t5 : (5 : Int32).toInt = 5 := rfl
  have t6 : (6 : Int32).toInt = 6 := rfl
  have t9 : (9 : Int32).toInt = 9 := rfl
  unfold sizes at h1 h0
  rw [rngI (by decide) (by decide), rngI (by decide) (by decide), rngI (by decide) (by decide), rngI (by decide) (by decide)] at h1 h0
  unfold T_X10_areCuttingSizes
  refine ⟨fun q => h0 ?_, fun q1 => ⟨fun q => h0 ?_, fun q2 => ⟨fun q => h0 ?_, fun q3 => ⟨fun q => h0 ?_, fun q4 => ⟨fun q => h0 ?_, fun q5 => ⟨fun q => h0 ?_, fun q6 => ⟨fun q => h0 ?_, fun q7 => ⟨fun q => h0 ?_, fun q8 => h1 ?_⟩⟩⟩⟩⟩⟩⟩⟩
  · rw [i_lt] at q; omega
  · rw [i_lt] at q; omega
  · rw [i_lt] at q; omega
  · rw [i_lt] at q; omega
  · rw [i_lt] at q; omega
  · rw [i_lt] at q; omega
  · rw [i_lt] at q; omega
  · rw [i_lt] at q; omega
  · rw [i_lt] at q1 q2 q3 q4 q5 q6 q7 q8; omega
theorem r_sizes {a b c e : Int32} {τ : kT} {post : Int32 → kT → Prop} (h1 : sizes a b c e → post 1 τ) (h0 : ¬ sizes a b c e → post 0 τ) : T_X11_areRight a b c e τ post := by
  have t0 : (0 : Int64).toInt = 0 := rfl
  have t1 : (1 : Int64).toInt = 1 := rfl
  have t5 : (5 : Int64).toInt = 5 := rfl
  have t6 : (6 : Int64).toInt = 6 := rfl
  have t9 : (9 : Int64).toInt = 9 := rfl
  unfold sizes at h1 h0
  rw [rngI (by decide) (by decide), rngI (by decide) (by decide), rngI (by decide) (by decide), rngI (by decide) (by decide)] at h1 h0
  unfold T_X11_areRight
  by_cases q1 : (1 : Int) ≤ a.toInt ∧ a.toInt ≤ 6
  case neg => exact s_in_f (by rw [i_64, t1, t6]; exact q1) (br_t rfl (h0 (fun w => q1 ⟨by omega, by omega⟩)))
  refine s_in_t (by rw [i_64, t1, t6]; exact q1) (br_f (by decide) ?_)
  by_cases q2 : (1 : Int) ≤ b.toInt ∧ b.toInt ≤ 6
  case neg => exact s_in_f (by rw [i_64, t1, t6]; exact q2) (br_t rfl (h0 (fun w => q2 ⟨by omega, by omega⟩)))
  refine s_in_t (by rw [i_64, t1, t6]; exact q2) (br_f (by decide) ?_)
  by_cases q3 : (1 : Int) ≤ c.toInt ∧ c.toInt ≤ 5
  case neg => exact s_in_f (by rw [i_64, t1, t5]; exact q3) (br_t rfl (h0 (fun w => q3 ⟨by omega, by omega⟩)))
  refine s_in_t (by rw [i_64, t1, t5]; exact q3) (br_f (by decide) ?_)
  by_cases q4 : (0 : Int) ≤ e.toInt ∧ e.toInt ≤ 9
  case neg => exact s_in_f (by rw [i_64, t0, t9]; exact q4) (br_t rfl (h0 (fun w => q4 ⟨by omega, by omega⟩)))
  refine s_in_t (by rw [i_64, t0, t9]; exact q4) (br_f (by decide) (h1 ?_))
  omega
theorem k_work_op : K_work J := by
  intro a b c e τ hJ
  obtain ⟨nk, hnk, k1, k2, k3⟩ := hJ.nk
  obtain ⟨nd, hnd, d1, d2, d3⟩ := hJ.nd
  unfold T_X10_work T_X10_cutByWishes
  refine c_sizes (fun hz => bn_t (by decide) ?_) (fun hz => bn_f rfl (s_settle_bad (Or.inl rfl) ?_))
  rotate_left
  · unfold T_X11_work
    exact r_sizes (fun w => absurd w hz) (fun _ => bn_f rfl ⟨rfl, hJ⟩)
  obtain ⟨⟨k, rfl, hk1, hk6⟩, ⟨d, rfl, hd1, hd6⟩, ⟨n, rfl, hn1, hn5⟩, ⟨sp, rfl, -, hs9⟩⟩ := id hz
  rw [k1, d1]
  by_cases q1 : nk < k
  · refine br_t (nI_lt q1 (by omega)) (s_settle_bad (Or.inr (Or.inl rfl)) ?_)
    unfold T_X11_work
    refine r_sizes (fun _ => bn_t (by decide) (br_t (by rw [k2]; exact nI_lt q1 (by omega)) ⟨rfl, hJ⟩)) (fun w => absurd hz w)
  refine br_f (fun w => q1 ((nI_ltI (by omega) (by omega)).mp w)) ?_
  by_cases q2 : nd < d
  · refine br_t (nI_lt q2 (by omega)) (s_settle_bad (Or.inr (Or.inl rfl)) ?_)
    unfold T_X11_work
    refine r_sizes (fun _ => bn_t (by decide) (br_f (by rw [k2]; exact fun w => q1 ((nI_ltI (by omega) (by omega)).mp w)) (br_f (by rw [d2]; exact nI_ge q2 (by omega)) ⟨rfl, hJ⟩))) (fun w => absurd hz w)
  refine br_f (fun w => q2 ((nI_ltI (by omega) (by omega)).mp w)) (br_t rfl ?_)
  refine core (lo := 1000) (REF := fun τs post' => T_X11_work (nI k) (nI d) (nI n) (nI sp) τs post') hJ hk6 (by rw [k3]; omega) hd6 (by rw [d3]; omega) (by omega) hn5 (by omega) (fun w => absurd w (by omega)) (fun _ => rfl) (fun w => absurd w (by omega)) (fun c hc => ?_) (fun τs post' e67 h => ?_) (fun r τ2 h => h)
  · unfold lcS N
    rw [(hJ.hz _ (by omega)).1]
    decide
  · unfold T_X11_work
    refine r_sizes (fun _ => bn_t (by decide) (br_f (by rw [e67, k2]; exact fun w => q1 ((nI_ltI (by omega) (by omega)).mp w)) (br_t (by rw [e67, d2]; exact nI_le (by omega) (by omega)) h))) (fun w => absurd hz w)
theorem k_anew_op : K_anew J := by
  intro a0 a b c e τ hJ
  obtain ⟨nk, hnk, k1, k2, k3⟩ := hJ.nk
  obtain ⟨nd, hnd, d1, d2, d3⟩ := hJ.nd
  have t0 : (0 : Int32).toInt = 0 := rfl
  unfold T_X10_anew
  -- the reference refuses
  have bad : ¬ (sizes a b c e ∧ 0 ≤ a0.toInt ∧ a0.toInt < a.toInt) → T_X11_anew a0 a b c e τ (fun r2 τ2 => -2 = r2 ∧ J τ2) := by
    intro w
    unfold T_X11_anew
    refine r_sizes (fun hz => br_f (by decide) ?_) (fun _ => br_t rfl ⟨rfl, hJ⟩)
    obtain ⟨⟨k, rfl, hk1, hk6⟩, -⟩ := id hz
    refine s_in_f ?_ (bn_f rfl ⟨rfl, hJ⟩)
    rw [i_64, i_64, i_m1 (by omega)]
    rw [nI_toInt (by omega)] at w
    show ¬ ((0 : Int) ≤ _ ∧ _)
    exact fun u => w ⟨hz, by omega, by omega⟩
  have cls : 0 ≤ a0.toInt → a0.toInt < a.toInt → T_X10_cutByWishes a0 a b c e τ (fun r14 τ15 => (T_X10_settle r14 τ15 (fun r16 τ17 => T_X11_anew a0 a b c e τ17 (fun r2 τ2 => r16 = r2 ∧ J τ2)))) := by
    intro u1 u2
    unfold T_X10_cutByWishes
    refine c_sizes (fun hz => bn_t (by decide) ?_) (fun hz => bn_f rfl (s_settle_bad (Or.inl rfl) (bad (fun w => hz w.1))))
    obtain ⟨⟨k, rfl, hk1, hk6⟩, ⟨d, rfl, hd1, hd6⟩, ⟨n, rfl, hn1, hn5⟩, ⟨sp, rfl, -, hs9⟩⟩ := id hz
    rw [nI_toInt (by omega)] at u2
    obtain ⟨lo, hlo, rfl⟩ : inn a0 k := (inn_iff (by omega)).mpr ⟨u1, u2⟩
    have lo1 : ¬ nI lo = -1 := nI_m1 (by omega)
    have rin : ∀ {τ' : kT} {P : Int32 → kT → Prop}, P 1 τ' → T_X11_in ((nI lo).toInt64) (0 : Int64) (((nI k - (1 : Int32))).toInt64) τ' P := fun hp => s_inN_t (n := k) rfl (by omega) hlo hp
    rw [k1, d1]
    by_cases q1 : nk < k
    · refine br_t (nI_lt q1 (by omega)) (s_settle_bad (Or.inr (Or.inl rfl)) ?_)
      unfold T_X11_anew
      exact r_sizes (fun _ => br_f (by decide) (rin (bn_t (by decide) (br_t (by rw [k2]; exact nI_lt q1 (by omega)) ⟨rfl, hJ⟩)))) (fun w => absurd hz w)
    refine br_f (fun w => q1 ((nI_ltI (by omega) (by omega)).mp w)) ?_
    by_cases q2 : nd < d
    · refine br_t (nI_lt q2 (by omega)) (s_settle_bad (Or.inr (Or.inl rfl)) ?_)
      unfold T_X11_anew
      exact r_sizes (fun _ => br_f (by decide) (rin (bn_t (by decide) (br_f (by rw [k2]; exact fun w => q1 ((nI_ltI (by omega) (by omega)).mp w)) (br_t (by rw [d2]; exact nI_lt q2 (by omega)) ⟨rfl, hJ⟩))))) (fun w => absurd hz w)
    refine br_f (fun w => q2 ((nI_ltI (by omega) (by omega)).mp w)) (br_f lo1 ?_)
    have hloN : lo < N (q_i τ 67) 8523 := by rw [k3]; omega
    have hold : q_i τ 12 lo = q_i τ 67 (4100 + lo) := hJ.2.1.1 (8, lo, 0) ⟨hloN, rfl⟩
    have leng : q_i τ 10 lo = q_i τ 67 (2200 + lo) := hJ.2.1.1 (7, lo, 0) ⟨hloN, rfl⟩
    -- the reference, up to its search
    have ri : ∀ {τ' : kT} {P : Int32 → kT → Prop}, q_i τ' 67 = q_i τ 67 → (q_i τ 67 (4100 + lo) ≠ -6 → P (-3) τ') → (q_i τ 67 (4100 + lo) = -6 → q_i τ 67 (2200 + lo) ≠ nI n → P (-3) τ') → (q_i τ 67 (4100 + lo) = -6 → q_i τ 67 (2200 + lo) = nI n → T_X11_searched (nI lo) (nI k) (nI d) (nI n) (nI sp) τ' P) → T_X11_anew (nI lo) (nI k) (nI d) (nI n) (nI sp) τ' P := by
      intro τ' P e67 h1 h2 h3
      unfold T_X11_anew
      refine r_sizes (fun _ => br_f (by decide) (rin (bn_t (by decide) (br_f (by rw [e67, k2]; exact fun w => q1 ((nI_ltI (by omega) (by omega)).mp w)) (br_f (by rw [e67, d2]; exact fun w => q2 ((nI_ltI (by omega) (by omega)).mp w)) ⟨4100 + lo, nI_add 4100 lo, by omega, ?_⟩))))) (fun w => absurd hz w)
      rw [e67]
      refine ⟨fun w => h1 w, fun w => ⟨2200 + lo, nI_add 2200 lo, by omega, fun w2 => h3 w w2, fun w2 => h2 w w2⟩⟩
    unfold T_X10_canBePassedOver
    refine s_X5_has_t k1 (by omega) (by omega) (br_f (by decide) ⟨lo, rfl, by omega, ?_⟩)
    rw [hold]
    by_cases w1 : q_i τ 67 (4100 + lo) = -6
    case neg =>
      exact bn_t w1 (bn_f rfl (s_settle_bad (Or.inr (Or.inl rfl)) (ri rfl (fun _ => ⟨rfl, hJ⟩) (fun u => absurd u w1) (fun u => absurd u w1))))
    refine bn_f w1 ⟨lo, rfl, by omega, ?_⟩
    rw [leng]
    by_cases w2 : q_i τ 67 (2200 + lo) = nI n
    case neg =>
      exact bn_t w2 (bn_f rfl (s_settle_bad (Or.inr (Or.inl rfl)) (ri rfl (fun u => absurd w1 u) (fun _ _ => ⟨rfl, hJ⟩) (fun _ u => absurd u w2))))
    refine bn_f w2 (bn_t (by decide) ?_)
    exact core (lo := lo) (REF := fun τs post' => T_X11_anew (nI lo) (nI k) (nI d) (nI n) (nI sp) τs post') hJ hk6 (by rw [k3]; omega) hd6 (by rw [d3]; omega) (by omega) hn5 (by omega) (fun _ => rfl) (fun w => absurd hlo w) (fun _ => w2) (hlc_of hJ.1 hn5 (fun _ => ⟨hloN, w2⟩) hlo) (fun τs post' e67 h => ri e67 (fun u => absurd w1 u) (fun _ u => absurd w2 u) (fun _ _ => h)) (fun r τ2 h => h)
  refine ⟨fun q => br_t rfl (bad (fun w => ?_)), fun q => ⟨fun q2 => br_t rfl (bad (fun w => ?_)), fun q2 => br_f (by decide) (cls ?_ ?_)⟩⟩
  · rw [i_lt] at q; omega
  · rw [i_le] at q2; omega
  · rw [i_lt] at q; omega
  · rw [i_le] at q2; omega
