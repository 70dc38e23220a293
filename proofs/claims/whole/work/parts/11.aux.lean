theorem k_nz {r : Int32} (h : r = 0 ∨ r = 1) : narrow .boolean (.int r) = .int r := by rcases h with rfl | rfl <;> rfl
theorem k_sw (x : Int32) (n : Nat) (hn : n < 2 ^ 31) (h : ¬ (x.toInt < 0 ∨ (n : Int) < x.toInt)) : ∃ k : Nat, k ≤ n ∧ x = nI k := by
  refine ⟨x.toInt.toNat, by omega, ?_⟩
  apply Int32.toInt_inj.mp
  rw [nI_toInt (by omega)]
  omega
theorem v_none {y : MethodName} {cc : ByteArray} {mx : Nat} {ret : Option FieldType} {d : Nat} {E : kE} {pc : Nat} {ls : List (Option Value)} {st : List Value} {σ : kS} {post : Option Value → kS → Prop} (i : Nat) (kk : V y cc mx ret d E pc (ls.set i none) st σ post) : V y cc mx ret d E pc ls st σ post := by
  refine ⟨fun C w hS hR L hL => ?_, trivial⟩
  refine kk.1 C w hS hR L ⟨hL.1, hL.2.1, fun q hq => hL.2.2 q ?_⟩
  obtain ⟨v, h1, h2⟩ := k_as_mem.mp hq
  refine k_as_mem.mpr ⟨v, ?_, h2⟩
  by_cases hi : q.1 = i
  · rw [hi] at h1
    have hlt : i < (ls.set i none).length := (List.getElem?_eq_some_iff.mp h1).1
    rw [List.getElem?_set_self (by simpa using hlt)] at h1
    cases h1
  · rwa [List.getElem?_set_ne (Ne.symm hi)] at h1
/-! Counting's two rows change places -/
def q_sw (τ : kT) : kT := q_si τ 59 9 (if q_i τ 59 9 = 0 then 1 else 0)
theorem q_sw_c1 (τ : kT) : q_c1 (q_sw τ) = q_c2 τ := by
  have e : q_i (q_sw τ) 59 9 = if q_i τ 59 9 = 0 then 1 else 0 := by simp [q_sw, q_si, q_wi, q_i, va_up, upd]
  unfold q_c1 q_c2
  rw [e]
  by_cases h : q_i τ 59 9 = 0 <;> simp [h]
theorem q_sw_c2 (τ : kT) : q_c2 (q_sw τ) = q_c1 τ := by
  have e : q_i (q_sw τ) 59 9 = if q_i τ 59 9 = 0 then 1 else 0 := by simp [q_sw, q_si, q_wi, q_i, va_up, upd]
  unfold q_c1 q_c2
  rw [e]
  by_cases h : q_i τ 59 9 = 0 <;> simp [h]
theorem v_eqv {y : MethodName} {cc : ByteArray} {mx : Nat} {ret : Option FieldType} {d : Nat} {E : kE} {pc : Nat} {ls : List (Option Value)} {st : List Value} {σ σ2 : kS} {post : Option Value → kS → Prop} (h : ∀ ad cA x, k_ce ad cA σ x = k_ce ad cA σ2 x) (kk : V y cc mx ret d E pc ls st σ2 post) : V y cc mx ret d E pc ls st σ post := by
  refine ⟨@fun p l e R s m args below meth c H locs cells slots mc ms Q D z ad cA C w hS hR L hL => ?_, trivial⟩
  have e : k_W ad cA E.1 σ = k_W ad cA E.1 σ2 := by
    unfold k_W
    apply List.map_congr_left
    intro i _
    rw [h ad cA i]
  unfold k_World at w
  rw [e] at w
  exact kk.1 C w hS hR L hL
set_option maxRecDepth 100000 in
theorem u_sw {d : Nat} {x3 f1 f2 : Int32} {τ : kT} {post : kT → Prop} (h : post (q_sw τ)) : U yX2_lengthen cX2_lengthen 4 none d kE0 38 [some (.ref 59), some (.int f1), some (.int f2), some (.int x3)] [] τ (k_pv post) := by
  refine v_aload_n dX2_lengthen_38 rfl rfl ?_
  refine u_getr fX2_15 dX2_lengthen_39 sh_59 rfl (by decide) (rf_59_1 _) ?_
  refine v_astore_n dX2_lengthen_42 rfl (by decide) rfl ?_
  refine v_ls (ls2 := [some (.ref 59), some (.int f1), some (.int f2), some (.ref (q_c1 τ))]) rfl ?_
  refine v_aload_n dX2_lengthen_43 rfl rfl ?_
  refine v_aload_n dX2_lengthen_44 rfl rfl ?_
  refine u_getr fX2_19 dX2_lengthen_45 sh_59 rfl (by decide) (rf_59_2 _) ?_
  refine v_putr pX2_15 (fun a => ⟨a, rfl⟩) (fun h => by cases h) dX2_lengthen_48 sh_59 rfl (by decide) ?_
  refine v_aload_n dX2_lengthen_51 rfl rfl ?_
  refine v_aload_n dX2_lengthen_52 rfl rfl ?_
  refine v_putr pX2_19 (fun a => ⟨a, rfl⟩) (fun h => by cases h) dX2_lengthen_53 sh_59 rfl (by decide) ?_
  refine v_eqv (σ2 := k_up (q_sw τ)) (fun ad cA x => ?_) (v_vret dX2_lengthen_56 ⟨rfl, id⟩ ⟨_, rfl, rfl, h⟩)
  by_cases hx : x = 59
  · subst hx
    rw [k_obj sh_59, k_obj sh_59]
    refine congrArg (fun l => (Sum.inr (2, l) : va_E)) ?_
    have e1 : k_r (k_up (q_sw τ)) 59 1 = some (q_c2 τ) := by show some (q_c1 (q_sw τ)) = _; rw [q_sw_c1]
    have e2 : k_r (k_up (q_sw τ)) 59 2 = some (q_c1 τ) := by show some (q_c2 (q_sw τ)) = _; rw [q_sw_c2]
    have e0 : k_r (k_up (q_sw τ)) 59 0 = some 60 := rfl
    have e3 : k_r (k_up τ) 59 0 = some 60 := rfl
    simp [List.range_succ, k_fv, k_rr, va_up, e1, e2, e0, e3]
  · refine k_ce_same ?_ rfl ?_
    · show τ.1 x = (q_sw τ).1 x
      simp [q_sw, q_si, q_wi, va_up, hx]
    · show _ = k_R (q_sw τ) x
      rw [k_rn _ _ hx, k_rn _ _ hx]
      funext k
      show k_R τ x k = _
      simp [k_R, hx]
