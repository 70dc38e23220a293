/-! ===== the two shops change their names: cells 1..19 and 20..38 ===== -/
def k_sw2 (x : Nat) : Nat := if 1 ≤ x ∧ x < 20 then x + 19 else if 20 ≤ x ∧ x < 39 then x - 19 else x
theorem k_sw2_2 (x : Nat) : k_sw2 (k_sw2 x) = x := by
  unfold k_sw2
  split
  · rw [if_neg (by omega), if_pos (by omega)]; omega
  · split
    · rw [if_pos (by omega)]; omega
    · first | rfl | rw [if_neg (by assumption), if_neg (by assumption)]
theorem k_sw2_lt {x : Nat} (h : x < 80) : k_sw2 x < 80 := by
  unfold k_sw2
  split
  · omega
  · split <;> omega
theorem k_sw2_sh (x : Nat) : k_sh (k_sw2 x) = k_sh x := by
  by_cases h : x < 80
  · have : ∀ x, x < 80 → k_sh (k_sw2 x) = k_sh x := by decide +kernel
    exact this x h
  · have : k_sw2 x = x := by unfold k_sw2; rw [if_neg (by omega), if_neg (by omega)]
    rw [this]
def k_rel (σ : kS) : kS := (fun x => σ.1 (k_sw2 x), fun x => σ.2.1 (k_sw2 x), fun x k => (σ.2.2 (k_sw2 x) k).map k_sw2)
theorem k_rel_2 (σ : kS) : k_rel (k_rel σ) = σ := by
  obtain ⟨a, b, c⟩ := σ
  unfold k_rel
  simp only [k_sw2_2, Option.map_map]
  refine congrArg (fun f => (a, b, f)) (funext fun x => funext fun k => ?_)
  cases c x k <;> simp [k_sw2_2]
theorem k_ce_rel (ad : Nat → Nat) (cA : Nat → ClassId) (σ : kS) (x : Nat) : k_ce (fun i => ad (k_sw2 i)) cA (k_rel σ) x = k_ce ad cA σ (k_sw2 x) := by
  have e : ∀ o : Option Nat, (o.map k_sw2).map (fun i => ad (k_sw2 i)) = o.map ad := fun o => by cases o <;> simp [k_sw2_2]
  have e2 : ∀ x k, (k_r (k_rel σ) x k).map (fun i => ad (k_sw2 i)) = (k_r σ (k_sw2 x) k).map ad := fun x k => e _
  unfold k_ce k_ce0 k_fv
  rw [k_sw2_sh]
  simp only [e2]
  rfl
theorem k_World_rel {D : va_G} {z : Nat} {ad : Nat → Nat} {cA : Nat → ClassId} {σ : kS} {H : Heap} (w : k_World D z ad cA 80 False σ H) : k_World D z (fun i => ad (k_sw2 i)) cA 80 False (k_rel σ) H := by
  have key : ∀ (k : Nat) (q : Nat × va_E), (k_W (fun i => ad (k_sw2 i)) cA 80 (k_rel σ))[k]? = some q → k < 80 ∧ (k_W ad cA 80 σ)[k_sw2 k]? = some q := by
    intro k q hk
    have hl : k < 80 := by have := (List.getElem?_eq_some_iff.mp hk).1; simpa [k_W] using this
    rw [k_W_at hl, k_ce_rel] at hk
    exact ⟨hl, by rw [k_W_at (k_sw2_lt hl)]; exact hk⟩
  refine ⟨fun k q hk => w.1 _ q (key k q hk).2, ⟨fun i j p q hi hj hpq => ?_, fun k q hk => w.2.1.2 _ q (key k q hk).2⟩, fun h => h.elim⟩
  have := w.2.1.1 _ _ p q (key i p hi).2 (key j q hj).2 hpq
  rw [← k_sw2_2 i, this, k_sw2_2]
theorem v_relabel {y : MethodName} {cc : ByteArray} {mx : Nat} {ret : Option FieldType} {d : Nat} {N : Nat} {xs : Nat → Int32} {pc : Nat} {ls : List (Option Value)} {st : List Value} {σ : kS} {post : Option Value → kS → Prop} (hls : ∀ v, some v ∈ ls → ∀ r, v = .ref r → k_sw2 r = r) (hst : ∀ v, v ∈ st → ∀ r, v = .ref r → k_sw2 r = r) (kk : V y cc mx ret d (80, 80, 0, False, False, N, xs) pc ls st (k_rel σ) (fun v σ' => post v (k_rel σ'))) : V y cc mx ret d (80, 80, 0, False, False, N, xs) pc ls st σ post := by
  refine ⟨@fun p l e R s m args below meth c H locs cells slots mc ms Q D z ad cA C w hS hR L hL => ?_, trivial⟩
  have hv : ∀ v : Value, (∀ r, v = .ref r → k_sw2 r = r) → k_v (fun i => ad (k_sw2 i)) v = k_v ad v := by
    intro v h
    cases v <;> first | rfl | (show Value.ref (ad (k_sw2 _)) = _; rw [h _ rfl]; rfl)
  have e1 : st.map (k_v ad) = st.map (k_v (fun i => ad (k_sw2 i))) := List.map_congr_left (fun v hm => (hv v (hst v hm)).symm)
  have e2 : k_L L mx (fun i => ad (k_sw2 i)) ls := by
    refine ⟨hL.1, hL.2.1, fun q hq => hL.2.2 q ?_⟩
    obtain ⟨v, h1, h2⟩ := k_as_mem.mp hq
    exact k_as_mem.mpr ⟨v, h1, by rw [h2, hv v (hls v (List.mem_of_getElem? h1))]⟩
  rw [e1]
  obtain ⟨c1, c2, c3, c4, c5, hts, hN, hK, hz, hal, hsc, hfr, hlo, hce, hsl, hmc, hms⟩ := id C
  refine kk.1 ⟨c1, c2, c3, c4, c5, hts, hN, hK, hz, fun h => h.elim, ?_, hfr, hlo, hce, hsl, hmc, hms⟩ (k_World_rel w) hS ?_ L e2
  · have e3 : k_sw2 1000 = 1000 := by decide
    unfold k_scr at hsc ⊢
    simp only [e3]
    exact hsc
  · intro v σ' H' locs' pc' L' hp hw hS' hrd
    have hw2 := k_World_rel hw
    simp only [k_sw2_2] at hw2
    have h9 := hR v (k_rel σ') H' locs' pc' L' hp hw2 hS' hrd
    have e4 : v.map (k_v ad) = v.map (k_v (fun i => ad (k_sw2 i))) := by
      rcases k_rd_cases hrd with ⟨-, rfl, -⟩ | ⟨-, x, rfl, -⟩ | ⟨-, x, rfl, -⟩ | ⟨-, x, rfl, -⟩ <;> rfl
    rw [e4] at h9
    exact h9
/-! ===== the law's frame ===== -/
def lE (N : Nat) (xs : Nat → Int32) : kE := (80, 80, 0, False, False, N + 1, xs)
abbrev UL (d N : Nat) (xs : Nat → Int32) (pc : Nat) (ls : List (Option Value)) (st : List Value) (τ : kT) : Prop := V yL_law cL_law 4 (some .boolean) d (lE N xs) pc ls st (k_up τ) (fun v _ => v = some (.int 1))
def lLs (i : Int32) : List (Option Value) := [some (.ref 1000), some (.ref 0), some (.ref 66), some (.int i)]
theorem u_callL {N : Nat} {xs : Nat → Int32} {d pc : Nat} {ls : List (Option Value)} {st : List Value} {τ : kT} {y2 : MethodName} {cc2 : ByteArray} {mx2 n2 idx x ci : Nat} {ret2 : Option FieldType} {ks : List Nat} {q : vw_C} (As : List Value) {stk : List Value} {postc : Option Value → kT → Prop} (hM : k_M y2 cc2 mx2 ret2 n2) (hI : k_MV y2) (hlk : Cond.methodLink RL idx y2 ∈ lw_g) (hd : decode cL_law pc = .ok (.invokevirtual idx, 3)) (hsh : k_sh x = (0, ci, ks)) (hcl : vwCl[ci]? = some q) (hq : q.1 = y2.cls) (hx : x < 80) (hstk : stk = As.reverse ++ .ref x :: st) (hn : As.length = n2) (h8 : (st.map fun v => v.category).sum ≤ 8) (hln : (lg_sl (.ref x :: As)).length ≤ mx2)
    (hV : U y2 cc2 mx2 ret2 d kE0 0 (k_en0 (.ref x :: As) mx2) [] τ postc) (kk : ∀ v τ2, postc v τ2 → UL (d + 1) N xs (pc + 3) ls (v.toList ++ st) τ2) : UL (d + 1) N xs pc ls stk τ := by
  subst hstk
  refine v_callV hM hI hlk hd hsh hcl hq hx ⟨rfl, rfl, id⟩ hn h8 hln (hV.mono ?_)
  rintro v σ' ⟨τ2, rfl, h⟩
  exact kk v τ2 h
/-! KeyShop.undo, called by the law -/
def q_undo (τ : kT) : kT := (fun x => (q_si τ 0 2 0).1 (k_sw2 x), fun x => τ.2 (k_sw2 x))
theorem k_R_sw {τ τ2 : kT} (h9 : q_i τ2 59 9 = q_i τ 59 9) (x k : Nat) (hx : x ≠ 0) : (k_R τ (k_sw2 x) k).map k_sw2 = k_R τ2 x k := by
  have ec1 : q_c1 τ2 = q_c1 τ := by unfold q_c1; rw [h9]
  have ec2 : q_c2 τ2 = q_c2 τ := by unfold q_c2; rw [h9]
  have s1 : k_sw2 (q_c1 τ) = q_c1 τ := by unfold q_c1; split <;> rfl
  have s2 : k_sw2 (q_c2 τ) = q_c2 τ := by unfold q_c2; split <;> rfl
  by_cases h52 : x = 52
  · subst h52
    have : k_sw2 52 = 52 := rfl
    rw [this]
    unfold k_R
    by_cases hk : k < 6
    · simp [hk]
      unfold k_sw2
      rw [if_neg (by omega), if_neg (by omega)]
    · simp [hk]
  by_cases h59 : x = 59
  · subst h59
    have : k_sw2 59 = 59 := rfl
    rw [this]
    unfold k_R
    simp only [show ¬ (59 : Nat) = 52 by decide, if_false, if_true]
    split
    · rfl
    · split
      · simp [s1, ec1]
      · split
        · simp [s2, ec2]
        · rfl
  by_cases hl : x < 80
  · have n52 : ∀ x, x < 80 → x ≠ 52 → k_sw2 x ≠ 52 := by decide +kernel
    have n59 : ∀ x, x < 80 → x ≠ 59 → k_sw2 x ≠ 59 := by decide +kernel
    unfold k_R
    rw [if_neg (n52 x hl h52), if_neg (n59 x hl h59), if_neg h52, if_neg h59]
    by_cases hk : k < 23
    · have : ∀ x, x < 80 → ∀ k, k < 23 → x ≠ 0 → ((k_Rl.getD (k_sw2 x) []).getD k none).map k_sw2 = (k_Rl.getD x []).getD k none := by decide +kernel
      exact this x hl k hk hx
    · have len : ∀ x, x < 80 → (k_Rl.getD x []).length ≤ 23 := by decide +kernel
      have g : ∀ x, x < 80 → (k_Rl.getD x []).getD k none = none := fun x hx => by
        rw [List.getD_eq_getElem?_getD, List.getElem?_eq_none (by have := len x hx; omega)]
        rfl
      rw [g _ (k_sw2_lt hl), g x hl]
      rfl
  · have e : k_sw2 x = x := by unfold k_sw2; rw [if_neg (by omega), if_neg (by omega)]
    have g : k_Rl.getD x [] = [] := by
      rw [List.getD_eq_getElem?_getD, List.getElem?_eq_none (by have : k_Rl.length = 80 := rfl
                                                                omega)]
      rfl
    unfold k_R
    rw [e, if_neg h52, if_neg h59, if_neg h52, if_neg h59, g]
    rfl
set_option maxRecDepth 100000 in
theorem u_undoL {N : Nat} {xs : Nat → Int32} {d pc idx : Nat} {i : Int32} {τ : kT} (hlk : Cond.methodLink RL idx yX10_undo ∈ lw_g) (hd : decode cL_law pc = .ok (.invokevirtual idx, 3)) (h1 : q_i τ 0 2 = 0 → UL (d + 1) N xs (pc + 3) (lLs i) [.int (-3)] τ) (h2 : ¬ q_i τ 0 2 = 0 → UL (d + 1) N xs (pc + 3) (lLs i) [.int 1] (q_undo τ)) : UL (d + 1) N xs pc (lLs i) [.ref 0] τ := by
  refine v_callV (As := []) mX10_undo iX10_undo hlk hd sh_0 rfl rfl (by decide) ⟨rfl, rfl, id⟩ rfl (Nat.le_of_ble_eq_true rfl) (Nat.le_of_ble_eq_true rfl) ?_
  refine v_ls (ls2 := [some (.ref 0), none]) rfl ?_
  refine v_aload_n dX10_undo_0 rfl rfl ?_
  refine v_geti fX10_19 dX10_undo_1 sh_0 rfl (by decide) ?_
  refine v_if_ne (tgt := 10) dX10_undo_4 (by decide) (fun c1 => ?_) (fun c1 => ?_)
  · refine v_aload_n dX10_undo_10 rfl rfl ?_
    refine v_getr (j := 1) fX10_10 dX10_undo_11 sh_0 rfl (by decide) rfl ?_
    refine v_astore_n dX10_undo_14 rfl (by decide) rfl ?_
    refine v_ls (ls2 := [some (.ref 0), some (.ref 1)]) rfl ?_
    refine v_aload_n dX10_undo_15 rfl rfl ?_
    refine v_aload_n dX10_undo_16 rfl rfl ?_
    refine v_getr (j := 20) fX10_16 dX10_undo_17 sh_0 rfl (by decide) rfl ?_
    refine v_putr pX10_10 (fun a => ⟨a, rfl⟩) (fun h => by cases h) dX10_undo_20 sh_0 rfl (by decide) ?_
    refine v_aload_n dX10_undo_23 rfl rfl ?_
    refine v_aload_n dX10_undo_24 rfl rfl ?_
    refine v_putr pX10_16 (fun a => ⟨a, rfl⟩) (fun h => by cases h) dX10_undo_25 sh_0 rfl (by decide) ?_
    refine v_aload_n dX10_undo_28 rfl rfl ?_
    refine v_iconst (v := 0) dX10_undo_29 (by decide) ?_
    refine v_puti pX10_19 (Or.inl rfl) (fun h => by cases h) dX10_undo_30 sh_0 rfl (by decide) ?_
    refine v_iconst (v := 1) dX10_undo_33 (by decide) ?_
    refine v_iret dX10_undo_34 ⟨rfl, id⟩ ?_
    refine v_relabel (by
      intro v hv r e
      subst e
      simp [lLs] at hv
      rcases hv with rfl | rfl | rfl <;> rfl) (by
      intro v hv r e
      subst e
      simp at hv) ?_
    refine v_eqv (σ2 := k_up (q_undo τ)) (fun ad cA x => k_ce_same rfl rfl (funext fun k => ?_)) (h2 c1)
    by_cases hx : x = 0
    · subst hx
      show (va_up (va_up (k_R τ) 0 (va_up (k_R τ 0) 0 (some 20))) 0 (va_up ((va_up (k_R τ) 0 (va_up (k_R τ 0) 0 (some 20))) 0) 1 (some 1)) (k_sw2 0) k).map k_sw2 = k_R (q_undo τ) 0 k
      have e0 : k_sw2 0 = 0 := rfl
      rw [e0]
      by_cases hk : k < 11
      · have : ∀ k, k < 11 → (va_up (va_up (fun k => (k_Rl.getD 0 []).getD k none) 0 (some 20)) 1 (some 1) k).map k_sw2 = (k_Rl.getD 0 []).getD k none := by decide +kernel
        exact this k hk
      · have g : (k_Rl.getD 0 []).getD k none = none := by
          rw [List.getD_eq_getElem?_getD, List.getElem?_eq_none (by have : (k_Rl.getD 0 []).length = 11 := rfl
                                                                    omega)]
          rfl
        have g2 : ∀ t : kT, k_R t 0 k = none := fun t => g
        rw [g2]
        simp [va_up, show k ≠ 0 by omega, show k ≠ 1 by omega, g2]
    · have hs0 : k_sw2 x ≠ 0 := by
        intro e
        apply hx
        rw [← k_sw2_2 x, e]
        rfl
      show (va_up (va_up (k_R τ) 0 _) 0 _ (k_sw2 x) k).map k_sw2 = k_R (q_undo τ) x k
      simp only [va_up, hs0, if_false]
      refine k_R_sw ?_ x k hx
      show (q_si τ 0 2 0).1 (k_sw2 59) 9 = _
      rfl
  · refine v_bipush (v := -3) dX10_undo_7 (by decide) ?_
    exact v_iret dX10_undo_9 ⟨rfl, id⟩ (h1 c1)
theorem V.out {y : MethodName} {cc : ByteArray} {mx : Nat} {ret : Option FieldType} {d : Nat} {E : kE} {pc : Nat} {ls : List (Option Value)} {st : List Value} {σ : kS} {post : Option Value → kS → Prop} (h : V y cc mx ret d E pc ls st σ post) (p : Program) (l : Launch) (e : Env) (R : Room) (s : State) (m : MethodId) (args : Array Value) (below : List Frame) (meth : Method) (c : Code) (H : Heap) (locs : List Loc) (cells slots mc ms : Nat) (Q : State → Prop) (D : va_G) (z : Nat) (ad : Nat → Nat) (cA : Nat → ClassId) (C : k_Ctx y cc mx d E p R s m args meth c cells slots mc ms D z ad cA) (w : k_World D z ad cA E.1 E.2.2.2.1 σ H) (hS : va_S (k_A z) s.heap H locs) (hR : k_Ret cc ret E.2.1 E.2.2.2.2.1 post p l e R s m args below meth c mc ms Q D z ad cA) (L : Array Slot) (hL : k_L L mx ad ls) : W p l e R s m args below meth c H locs cells slots Q (F0 m pc L (st.map (k_v ad))) := h.1 C w hS hR L hL
