theorem v_E {y : MethodName} {cc : ByteArray} {mx : Nat} {ret : Option FieldType} {d : Nat} {E : kE} {pc : Nat} {ls : List (Option Value)} {st : List Value} {σ : kS} {post : Option Value → kS → Prop} {E2 : kE} (h : E = E2) (kk : V y cc mx ret d E2 pc ls st σ post) : V y cc mx ret d E pc ls st σ post := h ▸ kk
theorem kNL_7 : k_N RL 7 9 [2, 2, 0, 0, 0, 0, 2, 2, 2, 2, 2] := ⟨RX10, TX10, tyX10, rfl, uX10, tyX10_ok, k_wd1 16 (by decide +kernel) rfl, k_wd1 17 (by decide +kernel) rfl, k_wd1 1 (by decide +kernel) rfl, by decide +kernel⟩
theorem kNX10_7 : k_N RX10 7 6 [2, 2, 2, 2, 0, 0, 0] := ⟨RX6, TX6, tyX6, rfl, uX6, tyX6_ok, k_wd1 24 (by decide +kernel) rfl, k_wd1 25 (by decide +kernel) rfl, k_wd1 2 (by decide +kernel) rfl, by decide +kernel⟩
theorem kNX6_9 : k_N RX6 9 4 [2, 2, 2, 2, 2, 0, 0, 2] := ⟨RX4, TX4, tyX4, rfl, uX4, tyX4_ok, k_wd1 30 (by decide +kernel) rfl, k_wd1 31 (by decide +kernel) rfl, k_wd1 3 (by decide +kernel) rfl, by decide +kernel⟩
theorem kNX6_18 : k_N RX6 18 5 [2, 2, 2, 2, 2, 0] := ⟨RX5, TX5, tyX5, rfl, uX5, tyX5_ok, k_wd1 76 (by decide +kernel) rfl, k_wd1 77 (by decide +kernel) rfl, k_wd1 4 (by decide +kernel) rfl, by decide +kernel⟩
theorem kNX6_25 : k_N RX6 25 0 [2, 2, 2, 0] := ⟨RX0, TX0, tyX0, rfl, uX0, tyX0_ok, k_wd1 110 (by decide +kernel) rfl, k_wd1 111 (by decide +kernel) rfl, k_wd1 5 (by decide +kernel) rfl, by decide +kernel⟩
theorem kNX10_33 : k_N RX10 33 8 [2, 0] := ⟨RX8, TX8, tyX8, rfl, uX8, tyX8_ok, k_wd1 166 (by decide +kernel) rfl, k_wd1 167 (by decide +kernel) rfl, k_wd1 6 (by decide +kernel) rfl, by decide +kernel⟩
theorem kNX8_9 : k_N RX8 9 7 [2, 0] := ⟨RX7, TX7, tyX7, rfl, uX7, tyX7_ok, k_wd1 172 (by decide +kernel) rfl, k_wd1 173 (by decide +kernel) rfl, k_wd1 7 (by decide +kernel) rfl, by decide +kernel⟩
theorem kNX10_43 : k_N RX10 43 3 [0, 0, 0, 0, 0, 2, 0, 0, 2, 2, 0, 0, 2, 2, 2, 2] := ⟨RX3, TX3, tyX3, rfl, uX3, tyX3_ok, k_wd1 195 (by decide +kernel) rfl, k_wd1 196 (by decide +kernel) rfl, k_wd1 8 (by decide +kernel) rfl, by decide +kernel⟩
theorem kAX3_34 : Cond.classLink RX3 34 "[[I" ∈ lw_g := k_wd1 201 (by decide +kernel) rfl
theorem kNX10_50 : k_N RX10 50 2 [2, 2, 2] := ⟨RX2, TX2, tyX2, rfl, uX2, tyX2_ok, k_wd2 13 (by decide +kernel) rfl, k_wd2 14 (by decide +kernel) rfl, k_wd1 9 (by decide +kernel) rfl, by decide +kernel⟩
theorem kNX10_57 : k_N RX10 57 1 [2, 2, 0, 0, 0, 0] := ⟨RX1, TX1, tyX1, rfl, uX1, tyX1_ok, k_wd2 29 (by decide +kernel) rfl, k_wd2 30 (by decide +kernel) rfl, k_wd1 10 (by decide +kernel) rfl, by decide +kernel⟩
theorem kNL_10 : k_N RL 10 10 [2, 2, 0, 0, 0, 0, 0, 0, 2, 0, 0, 2, 2, 2, 0, 2, 2, 2, 2, 2, 0, 2, 2] := ⟨RX11, TX11, tyX11, rfl, uX11, tyX11_ok, k_wd4 214 (by decide +kernel) rfl, k_wd4 215 (by decide +kernel) rfl, k_wd1 11 (by decide +kernel) rfl, by decide +kernel⟩
theorem k_cI : Cond.arrayClass .int ∈ lw_g := k_wd1 75 (by decide +kernel) rfl
theorem k_cL : Cond.arrayClass .long ∈ lw_g := k_wd1 109 (by decide +kernel) rfl
theorem k_oI : Cond.instanceMethod objectInit ∈ lw_g := k_wd1 22 (by decide +kernel) rfl
theorem k_oC : Cond.code objectInit ⟨#[0xb1]⟩ 1 none ∈ lw_g := k_wd1 23 (by decide +kernel) rfl
def k_si (σ : kS) (x k : Nat) (v : Int32) : kS := k_wi σ x (upd (k_i σ x) k v)
def k_sr (σ : kS) (x k j : Nat) : kS := k_wr σ x (va_up (k_r σ x) k (some j))
def C_X4_2 (σ : kS) : kS := (k_sr (k_wi (k_si (k_si (k_sr (k_wi (k_sr (k_wi (k_sr (k_wi (k_sr (k_wi (k_sr (k_wi σ 3 (fun _ => 0)) 2 0 3) 4 (fun _ => 0)) 2 1 4) 5 (fun _ => 0)) 2 2 5) 6 (fun _ => 0)) 2 3 6) 7 (fun _ => 0)) 2 4 7) 2 5 (0)) 2 6 (-1)) 8 (fun _ => 0)) 2 7 8)
set_option maxRecDepth 100000 in
set_option maxHeartbeats 4000000 in
theorem c_X4_2 {d : Nat} {σ : kS} {post : Option Value → kS → Prop} (h : post none (C_X4_2 σ)) : V yX4_init cX4_init 1 none (d + 1) (3, 9, 2218, True, True, 0, fun _ => 0) 0 [some (.ref 2)] [] σ post := by
  refine v_aload_n dX4_init_0 rfl rfl ?_
  refine v_obj oX4_3 k_oI k_oC dX4_init_1 (Nat.le_of_ble_eq_true rfl) ?_
  refine v_aload_n dX4_init_4 rfl rfl ?_
  refine v_bipush (v := 100) dX4_init_5 (by decide) ?_
  refine v_newi k_cI dX4_init_7 sh_3 rfl (by decide) trivial (by decide) (by decide) ?_
  refine v_E (E2 := (4, 9, 2118, True, True, 0, fun _ => 0)) rfl ?_
  refine v_putr pX4_9 (fun a => ⟨a, rfl⟩) (fun _ => rfl) dX4_init_9 sh_2 rfl (by decide) ?_
  rw [← k_sr]
  refine v_aload_n dX4_init_12 rfl rfl ?_
  refine v_bipush (v := 100) dX4_init_13 (by decide) ?_
  refine v_newi k_cI dX4_init_15 sh_4 rfl (by decide) trivial (by decide) (by decide) ?_
  refine v_E (E2 := (5, 9, 2018, True, True, 0, fun _ => 0)) rfl ?_
  refine v_putr pX4_15 (fun a => ⟨a, rfl⟩) (fun _ => rfl) dX4_init_17 sh_2 rfl (by decide) ?_
  rw [← k_sr]
  refine v_aload_n dX4_init_20 rfl rfl ?_
  refine v_sipush (v := 1800) dX4_init_21 (by decide) ?_
  refine v_newi k_cI dX4_init_24 sh_5 rfl (by decide) trivial (by decide) (by decide) ?_
  refine v_E (E2 := (6, 9, 218, True, True, 0, fun _ => 0)) rfl ?_
  refine v_putr pX4_18 (fun a => ⟨a, rfl⟩) (fun _ => rfl) dX4_init_26 sh_2 rfl (by decide) ?_
  rw [← k_sr]
  refine v_aload_n dX4_init_29 rfl rfl ?_
  refine v_bipush (v := 100) dX4_init_30 (by decide) ?_
  refine v_newi k_cI dX4_init_32 sh_6 rfl (by decide) trivial (by decide) (by decide) ?_
  refine v_E (E2 := (7, 9, 118, True, True, 0, fun _ => 0)) rfl ?_
  refine v_putr pX4_21 (fun a => ⟨a, rfl⟩) (fun _ => rfl) dX4_init_34 sh_2 rfl (by decide) ?_
  rw [← k_sr]
  refine v_aload_n dX4_init_37 rfl rfl ?_
  refine v_bipush (v := 100) dX4_init_38 (by decide) ?_
  refine v_newi k_cI dX4_init_40 sh_7 rfl (by decide) trivial (by decide) (by decide) ?_
  refine v_E (E2 := (8, 9, 18, True, True, 0, fun _ => 0)) rfl ?_
  refine v_putr pX4_24 (fun a => ⟨a, rfl⟩) (fun _ => rfl) dX4_init_42 sh_2 rfl (by decide) ?_
  rw [← k_sr]
  refine v_aload_n dX4_init_45 rfl rfl ?_
  refine v_iconst (v := 0) dX4_init_46 (by decide) ?_
  refine v_puti pX4_27 ⟨_, rfl⟩ (fun _ => rfl) dX4_init_47 sh_2 rfl (by decide) ?_
  rw [← k_si]
  refine v_aload_n dX4_init_50 rfl rfl ?_
  refine v_iconst (v := -1) dX4_init_51 (by decide) ?_
  refine v_puti pX4_31 ⟨_, rfl⟩ (fun _ => rfl) dX4_init_52 sh_2 rfl (by decide) ?_
  rw [← k_si]
  refine v_aload_n dX4_init_55 rfl rfl ?_
  refine v_bipush (v := 18) dX4_init_56 (by decide) ?_
  refine v_newi k_cI dX4_init_58 sh_8 rfl (by decide) trivial (by decide) (by decide) ?_
  refine v_E (E2 := (9, 9, 0, True, True, 0, fun _ => 0)) rfl ?_
  refine v_putr pX4_34 (fun a => ⟨a, rfl⟩) (fun _ => rfl) dX4_init_60 sh_2 rfl (by decide) ?_
  rw [← k_sr]
  exact v_vret dX4_init_63 ⟨rfl, fun _ => trivial⟩ h
def C_X5_9 (σ : kS) : kS := (k_si (k_sr (k_wl (k_sr (k_wl (k_sr (k_wi (k_sr (k_wi (k_sr (k_wi σ 10 (fun _ => 0)) 9 0 10) 11 (fun _ => 0)) 9 1 11) 12 (fun _ => 0)) 9 2 12) 13 (fun _ => 0)) 9 3 13) 14 (fun _ => 0)) 9 4 14) 9 5 (0))
set_option maxRecDepth 100000 in
set_option maxHeartbeats 4000000 in
theorem c_X5_9 {d : Nat} {σ : kS} {post : Option Value → kS → Prop} (h : post none (C_X5_9 σ)) : V yX5_init cX5_init 1 none (d + 1) (10, 15, 2200, True, True, 0, fun _ => 0) 0 [some (.ref 9)] [] σ post := by
  refine v_aload_n dX5_init_0 rfl rfl ?_
  refine v_obj oX5_3 k_oI k_oC dX5_init_1 (Nat.le_of_ble_eq_true rfl) ?_
  refine v_aload_n dX5_init_4 rfl rfl ?_
  refine v_bipush (v := 100) dX5_init_5 (by decide) ?_
  refine v_newi k_cI dX5_init_7 sh_10 rfl (by decide) trivial (by decide) (by decide) ?_
  refine v_E (E2 := (11, 15, 2100, True, True, 0, fun _ => 0)) rfl ?_
  refine v_putr pX5_9 (fun a => ⟨a, rfl⟩) (fun _ => rfl) dX5_init_9 sh_9 rfl (by decide) ?_
  rw [← k_sr]
  refine v_aload_n dX5_init_12 rfl rfl ?_
  refine v_sipush (v := 1800) dX5_init_13 (by decide) ?_
  refine v_newi k_cI dX5_init_16 sh_11 rfl (by decide) trivial (by decide) (by decide) ?_
  refine v_E (E2 := (12, 15, 300, True, True, 0, fun _ => 0)) rfl ?_
  refine v_putr pX5_15 (fun a => ⟨a, rfl⟩) (fun _ => rfl) dX5_init_18 sh_9 rfl (by decide) ?_
  rw [← k_sr]
  refine v_aload_n dX5_init_21 rfl rfl ?_
  refine v_bipush (v := 100) dX5_init_22 (by decide) ?_
  refine v_newi k_cI dX5_init_24 sh_12 rfl (by decide) trivial (by decide) (by decide) ?_
  refine v_E (E2 := (13, 15, 200, True, True, 0, fun _ => 0)) rfl ?_
  refine v_putr pX5_18 (fun a => ⟨a, rfl⟩) (fun _ => rfl) dX5_init_26 sh_9 rfl (by decide) ?_
  rw [← k_sr]
  refine v_aload_n dX5_init_29 rfl rfl ?_
  refine v_bipush (v := 100) dX5_init_30 (by decide) ?_
  refine v_newl k_cL dX5_init_32 sh_13 rfl (by decide) trivial (by decide) (by decide) ?_
  refine v_E (E2 := (14, 15, 100, True, True, 0, fun _ => 0)) rfl ?_
  refine v_putr pX5_21 (fun a => ⟨a, rfl⟩) (fun _ => rfl) dX5_init_34 sh_9 rfl (by decide) ?_
  rw [← k_sr]
  refine v_aload_n dX5_init_37 rfl rfl ?_
  refine v_bipush (v := 100) dX5_init_38 (by decide) ?_
  refine v_newl k_cL dX5_init_40 sh_14 rfl (by decide) trivial (by decide) (by decide) ?_
  refine v_E (E2 := (15, 15, 0, True, True, 0, fun _ => 0)) rfl ?_
  refine v_putr pX5_25 (fun a => ⟨a, rfl⟩) (fun _ => rfl) dX5_init_42 sh_9 rfl (by decide) ?_
  rw [← k_sr]
  refine v_aload_n dX5_init_45 rfl rfl ?_
  refine v_iconst (v := 0) dX5_init_46 (by decide) ?_
  refine v_puti pX5_28 ⟨_, rfl⟩ (fun _ => rfl) dX5_init_47 sh_9 rfl (by decide) ?_
  rw [← k_si]
  exact v_vret dX5_init_50 ⟨rfl, fun _ => trivial⟩ h
def C_X0_15 (σ : kS) : kS := (k_si (k_sr (k_wi (k_sr (k_wi (k_sr (k_wi σ 16 (fun _ => 0)) 15 0 16) 17 (fun _ => 0)) 15 1 17) 18 (fun _ => 0)) 15 2 18) 15 3 (0))
set_option maxRecDepth 100000 in
set_option maxHeartbeats 4000000 in
theorem c_X0_15 {d : Nat} {σ : kS} {post : Option Value → kS → Prop} (h : post none (C_X0_15 σ)) : V yX0_init cX0_init 1 none (d + 1) (16, 19, 264, True, True, 0, fun _ => 0) 0 [some (.ref 15)] [] σ post := by
  refine v_aload_n dX0_init_0 rfl rfl ?_
  refine v_obj oX0_3 k_oI k_oC dX0_init_1 (Nat.le_of_ble_eq_true rfl) ?_
  refine v_aload_n dX0_init_4 rfl rfl ?_
  refine v_bipush (v := 12) dX0_init_5 (by decide) ?_
  refine v_newi k_cI dX0_init_7 sh_16 rfl (by decide) trivial (by decide) (by decide) ?_
  refine v_E (E2 := (17, 19, 252, True, True, 0, fun _ => 0)) rfl ?_
  refine v_putr pX0_9 (fun a => ⟨a, rfl⟩) (fun _ => rfl) dX0_init_9 sh_15 rfl (by decide) ?_
  rw [← k_sr]
  refine v_aload_n dX0_init_12 rfl rfl ?_
  refine v_bipush (v := 12) dX0_init_13 (by decide) ?_
  refine v_newi k_cI dX0_init_15 sh_17 rfl (by decide) trivial (by decide) (by decide) ?_
  refine v_E (E2 := (18, 19, 240, True, True, 0, fun _ => 0)) rfl ?_
  refine v_putr pX0_15 (fun a => ⟨a, rfl⟩) (fun _ => rfl) dX0_init_17 sh_15 rfl (by decide) ?_
  rw [← k_sr]
  refine v_aload_n dX0_init_20 rfl rfl ?_
  refine v_sipush (v := 240) dX0_init_21 (by decide) ?_
  refine v_newi k_cI dX0_init_24 sh_18 rfl (by decide) trivial (by decide) (by decide) ?_
  refine v_E (E2 := (19, 19, 0, True, True, 0, fun _ => 0)) rfl ?_
  refine v_putr pX0_18 (fun a => ⟨a, rfl⟩) (fun _ => rfl) dX0_init_26 sh_15 rfl (by decide) ?_
  rw [← k_sr]
  refine v_aload_n dX0_init_29 rfl rfl ?_
  refine v_iconst (v := 0) dX0_init_30 (by decide) ?_
  refine v_puti pX0_21 ⟨_, rfl⟩ (fun _ => rfl) dX0_init_31 sh_15 rfl (by decide) ?_
  rw [← k_si]
  exact v_vret dX0_init_34 ⟨rfl, fun _ => trivial⟩ h
def C_X6_1 (σ : kS) : kS := (k_si (k_si (k_si (k_sr (k_wi (k_sr (C_X0_15 (k_new (k_sr (C_X5_9 (k_new (k_sr (C_X4_2 (k_new σ 2)) 1 0 2) 9)) 1 1 9) 15)) 1 2 15) 19 (fun _ => 0)) 1 3 19) 1 4 (0)) 1 5 (0)) 1 6 (0))
set_option maxRecDepth 100000 in
set_option maxHeartbeats 4000000 in
theorem c_X6_1 {d : Nat} {σ : kS} {post : Option Value → kS → Prop} (h : post none (C_X6_1 σ)) : V yX6_init cX6_init 1 none (d + 2) (2, 20, 4740, True, True, 0, fun _ => 0) 0 [some (.ref 1)] [] σ post := by
  refine v_aload_n dX6_init_0 rfl rfl ?_
  refine v_obj oX6_3 k_oI k_oC dX6_init_1 (Nat.le_of_ble_eq_true rfl) ?_
  refine v_aload_n dX6_init_4 rfl rfl ?_
  refine v_new kNX6_9 dX6_init_5 sh_2 trivial (by decide) (by decide) ?_
  refine v_E (E2 := (3, 20, 4732, True, True, 0, fun _ => 0)) rfl ?_
  refine v_dup dX6_init_8 rfl ?_
  refine v_callIN mX4_init jX4_init rfl nX6_11 dX6_init_9 trivial (Nat.le_of_ble_eq_true rfl) (by decide) (by decide : 3 ≤ 9 ∧ 9 ≤ 20 ∧ 2218 ≤ 4732) (c_X4_2 ?_)
  refine v_E (E2 := (9, 20, 2514, True, True, 0, fun _ => 0)) rfl ?_
  refine v_putr pX6_12 (fun a => ⟨a, rfl⟩) (fun _ => rfl) dX6_init_12 sh_1 rfl (by decide) ?_
  rw [← k_sr]
  refine v_aload_n dX6_init_15 rfl rfl ?_
  refine v_new kNX6_18 dX6_init_16 sh_9 trivial (by decide) (by decide) ?_
  refine v_E (E2 := (10, 20, 2508, True, True, 0, fun _ => 0)) rfl ?_
  refine v_dup dX6_init_19 rfl ?_
  refine v_callIN mX5_init jX5_init rfl nX6_20 dX6_init_20 trivial (Nat.le_of_ble_eq_true rfl) (by decide) (by decide : 10 ≤ 15 ∧ 15 ≤ 20 ∧ 2200 ≤ 2508) (c_X5_9 ?_)
  refine v_E (E2 := (15, 20, 308, True, True, 0, fun _ => 0)) rfl ?_
  refine v_putr pX6_21 (fun a => ⟨a, rfl⟩) (fun _ => rfl) dX6_init_23 sh_1 rfl (by decide) ?_
  rw [← k_sr]
  refine v_aload_n dX6_init_26 rfl rfl ?_
  refine v_new kNX6_25 dX6_init_27 sh_15 trivial (by decide) (by decide) ?_
  refine v_E (E2 := (16, 20, 304, True, True, 0, fun _ => 0)) rfl ?_
  refine v_dup dX6_init_30 rfl ?_
  refine v_callIN mX0_init jX0_init rfl nX6_27 dX6_init_31 trivial (Nat.le_of_ble_eq_true rfl) (by decide) (by decide : 16 ≤ 19 ∧ 19 ≤ 20 ∧ 264 ≤ 304) (c_X0_15 ?_)
  refine v_E (E2 := (19, 20, 40, True, True, 0, fun _ => 0)) rfl ?_
  refine v_putr pX6_28 (fun a => ⟨a, rfl⟩) (fun _ => rfl) dX6_init_34 sh_1 rfl (by decide) ?_
  rw [← k_sr]
  refine v_aload_n dX6_init_37 rfl rfl ?_
  refine v_bipush (v := 40) dX6_init_38 (by decide) ?_
  refine v_newi k_cI dX6_init_40 sh_19 rfl (by decide) trivial (by decide) (by decide) ?_
  refine v_E (E2 := (20, 20, 0, True, True, 0, fun _ => 0)) rfl ?_
  refine v_putr pX6_32 (fun a => ⟨a, rfl⟩) (fun _ => rfl) dX6_init_42 sh_1 rfl (by decide) ?_
  rw [← k_sr]
  refine v_aload_n dX6_init_45 rfl rfl ?_
  refine v_iconst (v := 0) dX6_init_46 (by decide) ?_
  refine v_puti pX6_36 ⟨_, rfl⟩ (fun _ => rfl) dX6_init_47 sh_1 rfl (by decide) ?_
  rw [← k_si]
  refine v_aload_n dX6_init_50 rfl rfl ?_
  refine v_iconst (v := 0) dX6_init_51 (by decide) ?_
  refine v_puti pX6_40 ⟨_, rfl⟩ (fun _ => rfl) dX6_init_52 sh_1 rfl (by decide) ?_
  rw [← k_si]
  refine v_aload_n dX6_init_55 rfl rfl ?_
  refine v_iconst (v := 0) dX6_init_56 (by decide) ?_
  refine v_puti pX6_43 ⟨_, rfl⟩ (fun _ => rfl) dX6_init_57 sh_1 rfl (by decide) ?_
  rw [← k_si]
  exact v_vret dX6_init_60 ⟨rfl, fun _ => trivial⟩ h
def C_X4_21 (σ : kS) : kS := (k_sr (k_wi (k_si (k_si (k_sr (k_wi (k_sr (k_wi (k_sr (k_wi (k_sr (k_wi (k_sr (k_wi σ 22 (fun _ => 0)) 21 0 22) 23 (fun _ => 0)) 21 1 23) 24 (fun _ => 0)) 21 2 24) 25 (fun _ => 0)) 21 3 25) 26 (fun _ => 0)) 21 4 26) 21 5 (0)) 21 6 (-1)) 27 (fun _ => 0)) 21 7 27)
set_option maxRecDepth 100000 in
set_option maxHeartbeats 4000000 in
theorem c_X4_21 {d : Nat} {σ : kS} {post : Option Value → kS → Prop} (h : post none (C_X4_21 σ)) : V yX4_init cX4_init 1 none (d + 1) (22, 28, 2218, True, True, 0, fun _ => 0) 0 [some (.ref 21)] [] σ post := by
  refine v_aload_n dX4_init_0 rfl rfl ?_
  refine v_obj oX4_3 k_oI k_oC dX4_init_1 (Nat.le_of_ble_eq_true rfl) ?_
  refine v_aload_n dX4_init_4 rfl rfl ?_
  refine v_bipush (v := 100) dX4_init_5 (by decide) ?_
  refine v_newi k_cI dX4_init_7 sh_22 rfl (by decide) trivial (by decide) (by decide) ?_
  refine v_E (E2 := (23, 28, 2118, True, True, 0, fun _ => 0)) rfl ?_
  refine v_putr pX4_9 (fun a => ⟨a, rfl⟩) (fun _ => rfl) dX4_init_9 sh_21 rfl (by decide) ?_
  rw [← k_sr]
  refine v_aload_n dX4_init_12 rfl rfl ?_
  refine v_bipush (v := 100) dX4_init_13 (by decide) ?_
  refine v_newi k_cI dX4_init_15 sh_23 rfl (by decide) trivial (by decide) (by decide) ?_
  refine v_E (E2 := (24, 28, 2018, True, True, 0, fun _ => 0)) rfl ?_
  refine v_putr pX4_15 (fun a => ⟨a, rfl⟩) (fun _ => rfl) dX4_init_17 sh_21 rfl (by decide) ?_
  rw [← k_sr]
  refine v_aload_n dX4_init_20 rfl rfl ?_
  refine v_sipush (v := 1800) dX4_init_21 (by decide) ?_
  refine v_newi k_cI dX4_init_24 sh_24 rfl (by decide) trivial (by decide) (by decide) ?_
  refine v_E (E2 := (25, 28, 218, True, True, 0, fun _ => 0)) rfl ?_
  refine v_putr pX4_18 (fun a => ⟨a, rfl⟩) (fun _ => rfl) dX4_init_26 sh_21 rfl (by decide) ?_
  rw [← k_sr]
  refine v_aload_n dX4_init_29 rfl rfl ?_
  refine v_bipush (v := 100) dX4_init_30 (by decide) ?_
  refine v_newi k_cI dX4_init_32 sh_25 rfl (by decide) trivial (by decide) (by decide) ?_
  refine v_E (E2 := (26, 28, 118, True, True, 0, fun _ => 0)) rfl ?_
  refine v_putr pX4_21 (fun a => ⟨a, rfl⟩) (fun _ => rfl) dX4_init_34 sh_21 rfl (by decide) ?_
  rw [← k_sr]
  refine v_aload_n dX4_init_37 rfl rfl ?_
  refine v_bipush (v := 100) dX4_init_38 (by decide) ?_
  refine v_newi k_cI dX4_init_40 sh_26 rfl (by decide) trivial (by decide) (by decide) ?_
  refine v_E (E2 := (27, 28, 18, True, True, 0, fun _ => 0)) rfl ?_
  refine v_putr pX4_24 (fun a => ⟨a, rfl⟩) (fun _ => rfl) dX4_init_42 sh_21 rfl (by decide) ?_
  rw [← k_sr]
  refine v_aload_n dX4_init_45 rfl rfl ?_
  refine v_iconst (v := 0) dX4_init_46 (by decide) ?_
  refine v_puti pX4_27 ⟨_, rfl⟩ (fun _ => rfl) dX4_init_47 sh_21 rfl (by decide) ?_
  rw [← k_si]
  refine v_aload_n dX4_init_50 rfl rfl ?_
  refine v_iconst (v := -1) dX4_init_51 (by decide) ?_
  refine v_puti pX4_31 ⟨_, rfl⟩ (fun _ => rfl) dX4_init_52 sh_21 rfl (by decide) ?_
  rw [← k_si]
  refine v_aload_n dX4_init_55 rfl rfl ?_
  refine v_bipush (v := 18) dX4_init_56 (by decide) ?_
  refine v_newi k_cI dX4_init_58 sh_27 rfl (by decide) trivial (by decide) (by decide) ?_
  refine v_E (E2 := (28, 28, 0, True, True, 0, fun _ => 0)) rfl ?_
  refine v_putr pX4_34 (fun a => ⟨a, rfl⟩) (fun _ => rfl) dX4_init_60 sh_21 rfl (by decide) ?_
  rw [← k_sr]
  exact v_vret dX4_init_63 ⟨rfl, fun _ => trivial⟩ h
def C_X5_28 (σ : kS) : kS := (k_si (k_sr (k_wl (k_sr (k_wl (k_sr (k_wi (k_sr (k_wi (k_sr (k_wi σ 29 (fun _ => 0)) 28 0 29) 30 (fun _ => 0)) 28 1 30) 31 (fun _ => 0)) 28 2 31) 32 (fun _ => 0)) 28 3 32) 33 (fun _ => 0)) 28 4 33) 28 5 (0))
set_option maxRecDepth 100000 in
set_option maxHeartbeats 4000000 in
theorem c_X5_28 {d : Nat} {σ : kS} {post : Option Value → kS → Prop} (h : post none (C_X5_28 σ)) : V yX5_init cX5_init 1 none (d + 1) (29, 34, 2200, True, True, 0, fun _ => 0) 0 [some (.ref 28)] [] σ post := by
  refine v_aload_n dX5_init_0 rfl rfl ?_
  refine v_obj oX5_3 k_oI k_oC dX5_init_1 (Nat.le_of_ble_eq_true rfl) ?_
  refine v_aload_n dX5_init_4 rfl rfl ?_
  refine v_bipush (v := 100) dX5_init_5 (by decide) ?_
  refine v_newi k_cI dX5_init_7 sh_29 rfl (by decide) trivial (by decide) (by decide) ?_
  refine v_E (E2 := (30, 34, 2100, True, True, 0, fun _ => 0)) rfl ?_
  refine v_putr pX5_9 (fun a => ⟨a, rfl⟩) (fun _ => rfl) dX5_init_9 sh_28 rfl (by decide) ?_
  rw [← k_sr]
  refine v_aload_n dX5_init_12 rfl rfl ?_
  refine v_sipush (v := 1800) dX5_init_13 (by decide) ?_
  refine v_newi k_cI dX5_init_16 sh_30 rfl (by decide) trivial (by decide) (by decide) ?_
  refine v_E (E2 := (31, 34, 300, True, True, 0, fun _ => 0)) rfl ?_
  refine v_putr pX5_15 (fun a => ⟨a, rfl⟩) (fun _ => rfl) dX5_init_18 sh_28 rfl (by decide) ?_
  rw [← k_sr]
  refine v_aload_n dX5_init_21 rfl rfl ?_
  refine v_bipush (v := 100) dX5_init_22 (by decide) ?_
  refine v_newi k_cI dX5_init_24 sh_31 rfl (by decide) trivial (by decide) (by decide) ?_
  refine v_E (E2 := (32, 34, 200, True, True, 0, fun _ => 0)) rfl ?_
  refine v_putr pX5_18 (fun a => ⟨a, rfl⟩) (fun _ => rfl) dX5_init_26 sh_28 rfl (by decide) ?_
  rw [← k_sr]
  refine v_aload_n dX5_init_29 rfl rfl ?_
  refine v_bipush (v := 100) dX5_init_30 (by decide) ?_
  refine v_newl k_cL dX5_init_32 sh_32 rfl (by decide) trivial (by decide) (by decide) ?_
  refine v_E (E2 := (33, 34, 100, True, True, 0, fun _ => 0)) rfl ?_
  refine v_putr pX5_21 (fun a => ⟨a, rfl⟩) (fun _ => rfl) dX5_init_34 sh_28 rfl (by decide) ?_
  rw [← k_sr]
  refine v_aload_n dX5_init_37 rfl rfl ?_
  refine v_bipush (v := 100) dX5_init_38 (by decide) ?_
  refine v_newl k_cL dX5_init_40 sh_33 rfl (by decide) trivial (by decide) (by decide) ?_
  refine v_E (E2 := (34, 34, 0, True, True, 0, fun _ => 0)) rfl ?_
  refine v_putr pX5_25 (fun a => ⟨a, rfl⟩) (fun _ => rfl) dX5_init_42 sh_28 rfl (by decide) ?_
  rw [← k_sr]
  refine v_aload_n dX5_init_45 rfl rfl ?_
  refine v_iconst (v := 0) dX5_init_46 (by decide) ?_
  refine v_puti pX5_28 ⟨_, rfl⟩ (fun _ => rfl) dX5_init_47 sh_28 rfl (by decide) ?_
  rw [← k_si]
  exact v_vret dX5_init_50 ⟨rfl, fun _ => trivial⟩ h
def C_X0_34 (σ : kS) : kS := (k_si (k_sr (k_wi (k_sr (k_wi (k_sr (k_wi σ 35 (fun _ => 0)) 34 0 35) 36 (fun _ => 0)) 34 1 36) 37 (fun _ => 0)) 34 2 37) 34 3 (0))
set_option maxRecDepth 100000 in
set_option maxHeartbeats 4000000 in
theorem c_X0_34 {d : Nat} {σ : kS} {post : Option Value → kS → Prop} (h : post none (C_X0_34 σ)) : V yX0_init cX0_init 1 none (d + 1) (35, 38, 264, True, True, 0, fun _ => 0) 0 [some (.ref 34)] [] σ post := by
  refine v_aload_n dX0_init_0 rfl rfl ?_
  refine v_obj oX0_3 k_oI k_oC dX0_init_1 (Nat.le_of_ble_eq_true rfl) ?_
  refine v_aload_n dX0_init_4 rfl rfl ?_
  refine v_bipush (v := 12) dX0_init_5 (by decide) ?_
  refine v_newi k_cI dX0_init_7 sh_35 rfl (by decide) trivial (by decide) (by decide) ?_
  refine v_E (E2 := (36, 38, 252, True, True, 0, fun _ => 0)) rfl ?_
  refine v_putr pX0_9 (fun a => ⟨a, rfl⟩) (fun _ => rfl) dX0_init_9 sh_34 rfl (by decide) ?_
  rw [← k_sr]
  refine v_aload_n dX0_init_12 rfl rfl ?_
  refine v_bipush (v := 12) dX0_init_13 (by decide) ?_
  refine v_newi k_cI dX0_init_15 sh_36 rfl (by decide) trivial (by decide) (by decide) ?_
  refine v_E (E2 := (37, 38, 240, True, True, 0, fun _ => 0)) rfl ?_
  refine v_putr pX0_15 (fun a => ⟨a, rfl⟩) (fun _ => rfl) dX0_init_17 sh_34 rfl (by decide) ?_
  rw [← k_sr]
  refine v_aload_n dX0_init_20 rfl rfl ?_
  refine v_sipush (v := 240) dX0_init_21 (by decide) ?_
  refine v_newi k_cI dX0_init_24 sh_37 rfl (by decide) trivial (by decide) (by decide) ?_
  refine v_E (E2 := (38, 38, 0, True, True, 0, fun _ => 0)) rfl ?_
  refine v_putr pX0_18 (fun a => ⟨a, rfl⟩) (fun _ => rfl) dX0_init_26 sh_34 rfl (by decide) ?_
  rw [← k_sr]
  refine v_aload_n dX0_init_29 rfl rfl ?_
  refine v_iconst (v := 0) dX0_init_30 (by decide) ?_
  refine v_puti pX0_21 ⟨_, rfl⟩ (fun _ => rfl) dX0_init_31 sh_34 rfl (by decide) ?_
  rw [← k_si]
  exact v_vret dX0_init_34 ⟨rfl, fun _ => trivial⟩ h
def C_X6_20 (σ : kS) : kS := (k_si (k_si (k_si (k_sr (k_wi (k_sr (C_X0_34 (k_new (k_sr (C_X5_28 (k_new (k_sr (C_X4_21 (k_new σ 21)) 20 0 21) 28)) 20 1 28) 34)) 20 2 34) 38 (fun _ => 0)) 20 3 38) 20 4 (0)) 20 5 (0)) 20 6 (0))
set_option maxRecDepth 100000 in
set_option maxHeartbeats 4000000 in
theorem c_X6_20 {d : Nat} {σ : kS} {post : Option Value → kS → Prop} (h : post none (C_X6_20 σ)) : V yX6_init cX6_init 1 none (d + 2) (21, 39, 4740, True, True, 0, fun _ => 0) 0 [some (.ref 20)] [] σ post := by
  refine v_aload_n dX6_init_0 rfl rfl ?_
  refine v_obj oX6_3 k_oI k_oC dX6_init_1 (Nat.le_of_ble_eq_true rfl) ?_
  refine v_aload_n dX6_init_4 rfl rfl ?_
  refine v_new kNX6_9 dX6_init_5 sh_21 trivial (by decide) (by decide) ?_
  refine v_E (E2 := (22, 39, 4732, True, True, 0, fun _ => 0)) rfl ?_
  refine v_dup dX6_init_8 rfl ?_
  refine v_callIN mX4_init jX4_init rfl nX6_11 dX6_init_9 trivial (Nat.le_of_ble_eq_true rfl) (by decide) (by decide : 22 ≤ 28 ∧ 28 ≤ 39 ∧ 2218 ≤ 4732) (c_X4_21 ?_)
  refine v_E (E2 := (28, 39, 2514, True, True, 0, fun _ => 0)) rfl ?_
  refine v_putr pX6_12 (fun a => ⟨a, rfl⟩) (fun _ => rfl) dX6_init_12 sh_20 rfl (by decide) ?_
  rw [← k_sr]
  refine v_aload_n dX6_init_15 rfl rfl ?_
  refine v_new kNX6_18 dX6_init_16 sh_28 trivial (by decide) (by decide) ?_
  refine v_E (E2 := (29, 39, 2508, True, True, 0, fun _ => 0)) rfl ?_
  refine v_dup dX6_init_19 rfl ?_
  refine v_callIN mX5_init jX5_init rfl nX6_20 dX6_init_20 trivial (Nat.le_of_ble_eq_true rfl) (by decide) (by decide : 29 ≤ 34 ∧ 34 ≤ 39 ∧ 2200 ≤ 2508) (c_X5_28 ?_)
  refine v_E (E2 := (34, 39, 308, True, True, 0, fun _ => 0)) rfl ?_
  refine v_putr pX6_21 (fun a => ⟨a, rfl⟩) (fun _ => rfl) dX6_init_23 sh_20 rfl (by decide) ?_
  rw [← k_sr]
  refine v_aload_n dX6_init_26 rfl rfl ?_
  refine v_new kNX6_25 dX6_init_27 sh_34 trivial (by decide) (by decide) ?_
  refine v_E (E2 := (35, 39, 304, True, True, 0, fun _ => 0)) rfl ?_
  refine v_dup dX6_init_30 rfl ?_
  refine v_callIN mX0_init jX0_init rfl nX6_27 dX6_init_31 trivial (Nat.le_of_ble_eq_true rfl) (by decide) (by decide : 35 ≤ 38 ∧ 38 ≤ 39 ∧ 264 ≤ 304) (c_X0_34 ?_)
  refine v_E (E2 := (38, 39, 40, True, True, 0, fun _ => 0)) rfl ?_
  refine v_putr pX6_28 (fun a => ⟨a, rfl⟩) (fun _ => rfl) dX6_init_34 sh_20 rfl (by decide) ?_
  rw [← k_sr]
  refine v_aload_n dX6_init_37 rfl rfl ?_
  refine v_bipush (v := 40) dX6_init_38 (by decide) ?_
  refine v_newi k_cI dX6_init_40 sh_38 rfl (by decide) trivial (by decide) (by decide) ?_
  refine v_E (E2 := (39, 39, 0, True, True, 0, fun _ => 0)) rfl ?_
  refine v_putr pX6_32 (fun a => ⟨a, rfl⟩) (fun _ => rfl) dX6_init_42 sh_20 rfl (by decide) ?_
  rw [← k_sr]
  refine v_aload_n dX6_init_45 rfl rfl ?_
  refine v_iconst (v := 0) dX6_init_46 (by decide) ?_
  refine v_puti pX6_36 ⟨_, rfl⟩ (fun _ => rfl) dX6_init_47 sh_20 rfl (by decide) ?_
  rw [← k_si]
  refine v_aload_n dX6_init_50 rfl rfl ?_
  refine v_iconst (v := 0) dX6_init_51 (by decide) ?_
  refine v_puti pX6_40 ⟨_, rfl⟩ (fun _ => rfl) dX6_init_52 sh_20 rfl (by decide) ?_
  rw [← k_si]
  refine v_aload_n dX6_init_55 rfl rfl ?_
  refine v_iconst (v := 0) dX6_init_56 (by decide) ?_
  refine v_puti pX6_43 ⟨_, rfl⟩ (fun _ => rfl) dX6_init_57 sh_20 rfl (by decide) ?_
  rw [← k_si]
  exact v_vret dX6_init_60 ⟨rfl, fun _ => trivial⟩ h
def C_X7_40 (σ : kS) : kS := (k_si (k_sr (k_wi σ 41 (fun _ => 0)) 40 0 41) 40 1 (0))
set_option maxRecDepth 100000 in
set_option maxHeartbeats 4000000 in
theorem c_X7_40 {d : Nat} {σ : kS} {post : Option Value → kS → Prop} (h : post none (C_X7_40 σ)) : V yX7_init cX7_init 1 none (d + 1) (41, 42, 40, True, True, 0, fun _ => 0) 0 [some (.ref 40)] [] σ post := by
  refine v_aload_n dX7_init_0 rfl rfl ?_
  refine v_obj oX7_3 k_oI k_oC dX7_init_1 (Nat.le_of_ble_eq_true rfl) ?_
  refine v_aload_n dX7_init_4 rfl rfl ?_
  refine v_bipush (v := 40) dX7_init_5 (by decide) ?_
  refine v_newi k_cI dX7_init_7 sh_41 rfl (by decide) trivial (by decide) (by decide) ?_
  refine v_E (E2 := (42, 42, 0, True, True, 0, fun _ => 0)) rfl ?_
  refine v_putr pX7_9 (fun a => ⟨a, rfl⟩) (fun _ => rfl) dX7_init_9 sh_40 rfl (by decide) ?_
  rw [← k_sr]
  refine v_aload_n dX7_init_12 rfl rfl ?_
  refine v_iconst (v := 0) dX7_init_13 (by decide) ?_
  refine v_puti pX7_15 ⟨_, rfl⟩ (fun _ => rfl) dX7_init_14 sh_40 rfl (by decide) ?_
  rw [← k_si]
  exact v_vret dX7_init_17 ⟨rfl, fun _ => trivial⟩ h
def C_X8_39 (σ : kS) : kS := (k_si (k_sr (C_X7_40 (k_new σ 40)) 39 0 40) 39 1 (-1))
set_option maxRecDepth 100000 in
set_option maxHeartbeats 4000000 in
theorem c_X8_39 {d : Nat} {σ : kS} {post : Option Value → kS → Prop} (h : post none (C_X8_39 σ)) : V yX8_init cX8_init 1 none (d + 2) (40, 42, 42, True, True, 0, fun _ => 0) 0 [some (.ref 39)] [] σ post := by
  refine v_aload_n dX8_init_0 rfl rfl ?_
  refine v_obj oX8_3 k_oI k_oC dX8_init_1 (Nat.le_of_ble_eq_true rfl) ?_
  refine v_aload_n dX8_init_4 rfl rfl ?_
  refine v_new kNX8_9 dX8_init_5 sh_40 trivial (by decide) (by decide) ?_
  refine v_E (E2 := (41, 42, 40, True, True, 0, fun _ => 0)) rfl ?_
  refine v_dup dX8_init_8 rfl ?_
  refine v_callIN mX7_init jX7_init rfl nX8_11 dX8_init_9 trivial (Nat.le_of_ble_eq_true rfl) (by decide) (by decide : 41 ≤ 42 ∧ 42 ≤ 42 ∧ 40 ≤ 40) (c_X7_40 ?_)
  refine v_E (E2 := (42, 42, 0, True, True, 0, fun _ => 0)) rfl ?_
  refine v_putr pX8_12 (fun a => ⟨a, rfl⟩) (fun _ => rfl) dX8_init_12 sh_39 rfl (by decide) ?_
  rw [← k_sr]
  refine v_aload_n dX8_init_15 rfl rfl ?_
  refine v_iconst (v := -1) dX8_init_16 (by decide) ?_
  refine v_puti pX8_18 ⟨_, rfl⟩ (fun _ => rfl) dX8_init_17 sh_39 rfl (by decide) ?_
  rw [← k_si]
  exact v_vret dX8_init_20 ⟨rfl, fun _ => trivial⟩ h
def C_X7_43 (σ : kS) : kS := (k_si (k_sr (k_wi σ 44 (fun _ => 0)) 43 0 44) 43 1 (0))
set_option maxRecDepth 100000 in
set_option maxHeartbeats 4000000 in
theorem c_X7_43 {d : Nat} {σ : kS} {post : Option Value → kS → Prop} (h : post none (C_X7_43 σ)) : V yX7_init cX7_init 1 none (d + 1) (44, 45, 40, True, True, 0, fun _ => 0) 0 [some (.ref 43)] [] σ post := by
  refine v_aload_n dX7_init_0 rfl rfl ?_
  refine v_obj oX7_3 k_oI k_oC dX7_init_1 (Nat.le_of_ble_eq_true rfl) ?_
  refine v_aload_n dX7_init_4 rfl rfl ?_
  refine v_bipush (v := 40) dX7_init_5 (by decide) ?_
  refine v_newi k_cI dX7_init_7 sh_44 rfl (by decide) trivial (by decide) (by decide) ?_
  refine v_E (E2 := (45, 45, 0, True, True, 0, fun _ => 0)) rfl ?_
  refine v_putr pX7_9 (fun a => ⟨a, rfl⟩) (fun _ => rfl) dX7_init_9 sh_43 rfl (by decide) ?_
  rw [← k_sr]
  refine v_aload_n dX7_init_12 rfl rfl ?_
  refine v_iconst (v := 0) dX7_init_13 (by decide) ?_
  refine v_puti pX7_15 ⟨_, rfl⟩ (fun _ => rfl) dX7_init_14 sh_43 rfl (by decide) ?_
  rw [← k_si]
  exact v_vret dX7_init_17 ⟨rfl, fun _ => trivial⟩ h
def C_X8_42 (σ : kS) : kS := (k_si (k_sr (C_X7_43 (k_new σ 43)) 42 0 43) 42 1 (-1))
set_option maxRecDepth 100000 in
set_option maxHeartbeats 4000000 in
theorem c_X8_42 {d : Nat} {σ : kS} {post : Option Value → kS → Prop} (h : post none (C_X8_42 σ)) : V yX8_init cX8_init 1 none (d + 2) (43, 45, 42, True, True, 0, fun _ => 0) 0 [some (.ref 42)] [] σ post := by
  refine v_aload_n dX8_init_0 rfl rfl ?_
  refine v_obj oX8_3 k_oI k_oC dX8_init_1 (Nat.le_of_ble_eq_true rfl) ?_
  refine v_aload_n dX8_init_4 rfl rfl ?_
  refine v_new kNX8_9 dX8_init_5 sh_43 trivial (by decide) (by decide) ?_
  refine v_E (E2 := (44, 45, 40, True, True, 0, fun _ => 0)) rfl ?_
  refine v_dup dX8_init_8 rfl ?_
  refine v_callIN mX7_init jX7_init rfl nX8_11 dX8_init_9 trivial (Nat.le_of_ble_eq_true rfl) (by decide) (by decide : 44 ≤ 45 ∧ 45 ≤ 45 ∧ 40 ≤ 40) (c_X7_43 ?_)
  refine v_E (E2 := (45, 45, 0, True, True, 0, fun _ => 0)) rfl ?_
  refine v_putr pX8_12 (fun a => ⟨a, rfl⟩) (fun _ => rfl) dX8_init_12 sh_42 rfl (by decide) ?_
  rw [← k_sr]
  refine v_aload_n dX8_init_15 rfl rfl ?_
  refine v_iconst (v := -1) dX8_init_16 (by decide) ?_
  refine v_puti pX8_18 ⟨_, rfl⟩ (fun _ => rfl) dX8_init_17 sh_42 rfl (by decide) ?_
  rw [← k_si]
  exact v_vret dX8_init_20 ⟨rfl, fun _ => trivial⟩ h
def C_X3_45 (σ : kS) : kS := (k_sr (k_mna (k_sr (k_wi (k_sr (k_wi (k_sr (k_wi (k_sr (k_wi (k_sr (k_wi (k_sr (k_wi (k_si σ 45 0 (0)) 46 (fun _ => 0)) 45 5 46) 47 (fun _ => 0)) 45 8 47) 48 (fun _ => 0)) 45 9 48) 49 (fun _ => 0)) 45 12 49) 50 (fun _ => 0)) 45 13 50) 51 (fun _ => 0)) 45 14 51) 52) 45 15 52)
set_option maxRecDepth 100000 in
set_option maxHeartbeats 4000000 in
theorem c_X3_45 {d : Nat} {σ : kS} {post : Option Value → kS → Prop} (h : post none (C_X3_45 σ)) : V yX3_init cX3_init 1 none (d + 1) (46, 59, 270, True, True, 0, fun _ => 0) 0 [some (.ref 45)] [] σ post := by
  refine v_aload_n dX3_init_0 rfl rfl ?_
  refine v_obj oX3_3 k_oI k_oC dX3_init_1 (Nat.le_of_ble_eq_true rfl) ?_
  refine v_aload_n dX3_init_4 rfl rfl ?_
  refine v_iconst (v := 0) dX3_init_5 (by decide) ?_
  refine v_puti pX3_9 ⟨_, rfl⟩ (fun _ => rfl) dX3_init_6 sh_45 rfl (by decide) ?_
  rw [← k_si]
  refine v_aload_n dX3_init_9 rfl rfl ?_
  refine v_bipush (v := 6) dX3_init_10 (by decide) ?_
  refine v_newi k_cI dX3_init_12 sh_46 rfl (by decide) trivial (by decide) (by decide) ?_
  refine v_E (E2 := (47, 59, 264, True, True, 0, fun _ => 0)) rfl ?_
  refine v_putr pX3_15 (fun a => ⟨a, rfl⟩) (fun _ => rfl) dX3_init_14 sh_45 rfl (by decide) ?_
  rw [← k_sr]
  refine v_aload_n dX3_init_17 rfl rfl ?_
  refine v_bipush (v := 6) dX3_init_18 (by decide) ?_
  refine v_newi k_cI dX3_init_20 sh_47 rfl (by decide) trivial (by decide) (by decide) ?_
  refine v_E (E2 := (48, 59, 258, True, True, 0, fun _ => 0)) rfl ?_
  refine v_putr pX3_19 (fun a => ⟨a, rfl⟩) (fun _ => rfl) dX3_init_22 sh_45 rfl (by decide) ?_
  rw [← k_sr]
  refine v_aload_n dX3_init_25 rfl rfl ?_
  refine v_bipush (v := 6) dX3_init_26 (by decide) ?_
  refine v_newi k_cI dX3_init_28 sh_48 rfl (by decide) trivial (by decide) (by decide) ?_
  refine v_E (E2 := (49, 59, 252, True, True, 0, fun _ => 0)) rfl ?_
  refine v_putr pX3_22 (fun a => ⟨a, rfl⟩) (fun _ => rfl) dX3_init_30 sh_45 rfl (by decide) ?_
  rw [← k_sr]
  refine v_aload_n dX3_init_33 rfl rfl ?_
  refine v_bipush (v := 6) dX3_init_34 (by decide) ?_
  refine v_newi k_cI dX3_init_36 sh_49 rfl (by decide) trivial (by decide) (by decide) ?_
  refine v_E (E2 := (50, 59, 246, True, True, 0, fun _ => 0)) rfl ?_
  refine v_putr pX3_25 (fun a => ⟨a, rfl⟩) (fun _ => rfl) dX3_init_38 sh_45 rfl (by decide) ?_
  rw [← k_sr]
  refine v_aload_n dX3_init_41 rfl rfl ?_
  refine v_bipush (v := 30) dX3_init_42 (by decide) ?_
  refine v_newi k_cI dX3_init_44 sh_50 rfl (by decide) trivial (by decide) (by decide) ?_
  refine v_E (E2 := (51, 59, 216, True, True, 0, fun _ => 0)) rfl ?_
  refine v_putr pX3_28 (fun a => ⟨a, rfl⟩) (fun _ => rfl) dX3_init_46 sh_45 rfl (by decide) ?_
  rw [← k_sr]
  refine v_aload_n dX3_init_49 rfl rfl ?_
  refine v_bipush (v := 30) dX3_init_50 (by decide) ?_
  refine v_newi k_cI dX3_init_52 sh_51 rfl (by decide) trivial (by decide) (by decide) ?_
  refine v_E (E2 := (52, 59, 186, True, True, 0, fun _ => 0)) rfl ?_
  refine v_putr pX3_31 (fun a => ⟨a, rfl⟩) (fun _ => rfl) dX3_init_54 sh_45 rfl (by decide) ?_
  rw [← k_sr]
  refine v_aload_n dX3_init_57 rfl rfl ?_
  refine v_bipush (v := 6) dX3_init_58 (by decide) ?_
  refine v_bipush (v := 30) dX3_init_60 (by decide) ?_
  refine v_mna kAX3_34 k_cI dX3_init_62 sh_52 (by decide +kernel) trivial (by decide) (by decide) ?_
  refine v_E (E2 := (59, 59, 0, True, True, 0, fun _ => 0)) rfl ?_
  refine v_putr pX3_36 (fun a => ⟨a, rfl⟩) (fun _ => rfl) dX3_init_66 sh_45 rfl (by decide) ?_
  rw [← k_sr]
  exact v_vret dX3_init_69 ⟨rfl, fun _ => trivial⟩ h
def C_X2_59 (σ : kS) : kS := (k_sr (k_wl (k_sr (k_wl (k_sr (k_wi σ 60 (fun _ => 0)) 59 0 60) 61 (fun _ => 0)) 59 1 61) 62 (fun _ => 0)) 59 2 62)
set_option maxRecDepth 100000 in
set_option maxHeartbeats 4000000 in
theorem c_X2_59 {d : Nat} {σ : kS} {post : Option Value → kS → Prop} (h : post none (C_X2_59 σ)) : V yX2_init cX2_init 1 none (d + 1) (60, 63, 38, True, True, 0, fun _ => 0) 0 [some (.ref 59)] [] σ post := by
  refine v_aload_n dX2_init_0 rfl rfl ?_
  refine v_obj oX2_3 k_oI k_oC dX2_init_1 (Nat.le_of_ble_eq_true rfl) ?_
  refine v_aload_n dX2_init_4 rfl rfl ?_
  refine v_bipush (v := 18) dX2_init_5 (by decide) ?_
  refine v_newi k_cI dX2_init_7 sh_60 rfl (by decide) trivial (by decide) (by decide) ?_
  refine v_E (E2 := (61, 63, 20, True, True, 0, fun _ => 0)) rfl ?_
  refine v_putr pX2_9 (fun a => ⟨a, rfl⟩) (fun _ => rfl) dX2_init_9 sh_59 rfl (by decide) ?_
  rw [← k_sr]
  refine v_aload_n dX2_init_12 rfl rfl ?_
  refine v_bipush (v := 10) dX2_init_13 (by decide) ?_
  refine v_newl k_cL dX2_init_15 sh_61 rfl (by decide) trivial (by decide) (by decide) ?_
  refine v_E (E2 := (62, 63, 10, True, True, 0, fun _ => 0)) rfl ?_
  refine v_putr pX2_15 (fun a => ⟨a, rfl⟩) (fun _ => rfl) dX2_init_17 sh_59 rfl (by decide) ?_
  rw [← k_sr]
  refine v_aload_n dX2_init_20 rfl rfl ?_
  refine v_bipush (v := 10) dX2_init_21 (by decide) ?_
  refine v_newl k_cL dX2_init_23 sh_62 rfl (by decide) trivial (by decide) (by decide) ?_
  refine v_E (E2 := (63, 63, 0, True, True, 0, fun _ => 0)) rfl ?_
  refine v_putr pX2_19 (fun a => ⟨a, rfl⟩) (fun _ => rfl) dX2_init_25 sh_59 rfl (by decide) ?_
  rw [← k_sr]
  exact v_vret dX2_init_28 ⟨rfl, fun _ => trivial⟩ h
def C_X1_63 (σ : kS) : kS := (k_sr (k_wi (k_sr (k_wi σ 64 (fun _ => 0)) 63 0 64) 65 (fun _ => 0)) 63 1 65)
set_option maxRecDepth 100000 in
set_option maxHeartbeats 4000000 in
theorem c_X1_63 {d : Nat} {σ : kS} {post : Option Value → kS → Prop} (h : post none (C_X1_63 σ)) : V yX1_init cX1_init 1 none (d + 1) (64, 66, 29, True, True, 0, fun _ => 0) 0 [some (.ref 63)] [] σ post := by
  refine v_aload_n dX1_init_0 rfl rfl ?_
  refine v_obj oX1_3 k_oI k_oC dX1_init_1 (Nat.le_of_ble_eq_true rfl) ?_
  refine v_aload_n dX1_init_4 rfl rfl ?_
  refine v_bipush (v := 14) dX1_init_5 (by decide) ?_
  refine v_newi k_cI dX1_init_7 sh_64 rfl (by decide) trivial (by decide) (by decide) ?_
  refine v_E (E2 := (65, 66, 15, True, True, 0, fun _ => 0)) rfl ?_
  refine v_putr pX1_9 (fun a => ⟨a, rfl⟩) (fun _ => rfl) dX1_init_9 sh_63 rfl (by decide) ?_
  rw [← k_sr]
  refine v_aload_n dX1_init_12 rfl rfl ?_
  refine v_bipush (v := 15) dX1_init_13 (by decide) ?_
  refine v_newi k_cI dX1_init_15 sh_65 rfl (by decide) trivial (by decide) (by decide) ?_
  refine v_E (E2 := (66, 66, 0, True, True, 0, fun _ => 0)) rfl ?_
  refine v_putr pX1_15 (fun a => ⟨a, rfl⟩) (fun _ => rfl) dX1_init_17 sh_63 rfl (by decide) ?_
  rw [← k_sr]
  exact v_vret dX1_init_20 ⟨rfl, fun _ => trivial⟩ h
def C_X10_0 (σ : kS) : kS := (k_sr (C_X1_63 (k_new (k_sr (C_X2_59 (k_new (k_sr (C_X3_45 (k_new (k_sr (C_X8_42 (k_new (k_sr (C_X8_39 (k_new (k_si (k_si (k_si (k_si (k_sr (C_X6_20 (k_new (k_sr (C_X6_1 (k_new σ 1)) 0 0 1) 20)) 0 1 20) 0 2 (0)) 0 3 (0)) 0 4 (0)) 0 5 (0)) 39)) 0 6 39) 42)) 0 7 42) 45)) 0 8 45) 59)) 0 9 59) 63)) 0 10 63)
set_option maxRecDepth 100000 in
set_option maxHeartbeats 4000000 in
theorem c_X10_0 {d : Nat} {σ : kS} {post : Option Value → kS → Prop} (h : post none (C_X10_0 σ)) : V yX10_init cX10_init 1 none (d + 3) (1, 66, 9944, True, True, 0, fun _ => 0) 0 [some (.ref 0)] [] σ post := by
  refine v_aload_n dX10_init_0 rfl rfl ?_
  refine v_obj oX10_1 k_oI k_oC dX10_init_1 (Nat.le_of_ble_eq_true rfl) ?_
  refine v_aload_n dX10_init_4 rfl rfl ?_
  refine v_new kNX10_7 dX10_init_5 sh_1 trivial (by decide) (by decide) ?_
  refine v_E (E2 := (2, 66, 9937, True, True, 0, fun _ => 0)) rfl ?_
  refine v_dup dX10_init_8 rfl ?_
  refine v_callIN mX6_init jX6_init rfl nX10_9 dX10_init_9 trivial (Nat.le_of_ble_eq_true rfl) (by decide) (by decide : 2 ≤ 20 ∧ 20 ≤ 66 ∧ 4740 ≤ 9937) (c_X6_1 ?_)
  refine v_E (E2 := (20, 66, 5197, True, True, 0, fun _ => 0)) rfl ?_
  refine v_putr pX10_10 (fun a => ⟨a, rfl⟩) (fun _ => rfl) dX10_init_12 sh_0 rfl (by decide) ?_
  rw [← k_sr]
  refine v_aload_n dX10_init_15 rfl rfl ?_
  refine v_new kNX10_7 dX10_init_16 sh_20 trivial (by decide) (by decide) ?_
  refine v_E (E2 := (21, 66, 5190, True, True, 0, fun _ => 0)) rfl ?_
  refine v_dup dX10_init_19 rfl ?_
  refine v_callIN mX6_init jX6_init rfl nX10_9 dX10_init_20 trivial (Nat.le_of_ble_eq_true rfl) (by decide) (by decide : 21 ≤ 39 ∧ 39 ≤ 66 ∧ 4740 ≤ 5190) (c_X6_20 ?_)
  refine v_E (E2 := (39, 66, 450, True, True, 0, fun _ => 0)) rfl ?_
  refine v_putr pX10_16 (fun a => ⟨a, rfl⟩) (fun _ => rfl) dX10_init_23 sh_0 rfl (by decide) ?_
  rw [← k_sr]
  refine v_aload_n dX10_init_26 rfl rfl ?_
  refine v_iconst (v := 0) dX10_init_27 (by decide) ?_
  refine v_puti pX10_19 (by first | exact Or.inl rfl | exact Or.inr rfl) (fun _ => rfl) dX10_init_28 sh_0 rfl (by decide) ?_
  rw [← k_si]
  refine v_aload_n dX10_init_31 rfl rfl ?_
  refine v_iconst (v := 0) dX10_init_32 (by decide) ?_
  refine v_puti pX10_23 ⟨_, rfl⟩ (fun _ => rfl) dX10_init_33 sh_0 rfl (by decide) ?_
  rw [← k_si]
  refine v_aload_n dX10_init_36 rfl rfl ?_
  refine v_iconst (v := 0) dX10_init_37 (by decide) ?_
  refine v_puti pX10_27 ⟨_, rfl⟩ (fun _ => rfl) dX10_init_38 sh_0 rfl (by decide) ?_
  rw [← k_si]
  refine v_aload_n dX10_init_41 rfl rfl ?_
  refine v_iconst (v := 0) dX10_init_42 (by decide) ?_
  refine v_puti pX10_30 ⟨_, rfl⟩ (fun _ => rfl) dX10_init_43 sh_0 rfl (by decide) ?_
  rw [← k_si]
  refine v_aload_n dX10_init_46 rfl rfl ?_
  refine v_new kNX10_33 dX10_init_47 sh_39 trivial (by decide) (by decide) ?_
  refine v_E (E2 := (40, 66, 448, True, True, 0, fun _ => 0)) rfl ?_
  refine v_dup dX10_init_50 rfl ?_
  refine v_callIN mX8_init jX8_init rfl nX10_35 dX10_init_51 trivial (Nat.le_of_ble_eq_true rfl) (by decide) (by decide : 40 ≤ 42 ∧ 42 ≤ 66 ∧ 42 ≤ 448) (c_X8_39 ?_)
  refine v_E (E2 := (42, 66, 406, True, True, 0, fun _ => 0)) rfl ?_
  refine v_putr pX10_36 (fun a => ⟨a, rfl⟩) (fun _ => rfl) dX10_init_54 sh_0 rfl (by decide) ?_
  rw [← k_sr]
  refine v_aload_n dX10_init_57 rfl rfl ?_
  refine v_new kNX10_33 dX10_init_58 sh_42 trivial (by decide) (by decide) ?_
  refine v_E (E2 := (43, 66, 404, True, True, 0, fun _ => 0)) rfl ?_
  refine v_dup dX10_init_61 rfl ?_
  refine v_callIN mX8_init jX8_init rfl nX10_35 dX10_init_62 trivial (Nat.le_of_ble_eq_true rfl) (by decide) (by decide : 43 ≤ 45 ∧ 45 ≤ 66 ∧ 42 ≤ 404) (c_X8_42 ?_)
  refine v_E (E2 := (45, 66, 362, True, True, 0, fun _ => 0)) rfl ?_
  refine v_putr pX10_40 (fun a => ⟨a, rfl⟩) (fun _ => rfl) dX10_init_65 sh_0 rfl (by decide) ?_
  rw [← k_sr]
  refine v_aload_n dX10_init_68 rfl rfl ?_
  refine v_new kNX10_43 dX10_init_69 sh_45 trivial (by decide) (by decide) ?_
  refine v_E (E2 := (46, 66, 346, True, True, 0, fun _ => 0)) rfl ?_
  refine v_dup dX10_init_72 rfl ?_
  refine v_callIN mX3_init jX3_init rfl nX10_45 dX10_init_73 trivial (Nat.le_of_ble_eq_true rfl) (by decide) (by decide : 46 ≤ 59 ∧ 59 ≤ 66 ∧ 270 ≤ 346) (c_X3_45 ?_)
  refine v_E (E2 := (59, 66, 76, True, True, 0, fun _ => 0)) rfl ?_
  refine v_putr pX10_46 (fun a => ⟨a, rfl⟩) (fun _ => rfl) dX10_init_76 sh_0 rfl (by decide) ?_
  rw [← k_sr]
  refine v_aload_n dX10_init_79 rfl rfl ?_
  refine v_new kNX10_50 dX10_init_80 sh_59 trivial (by decide) (by decide) ?_
  refine v_E (E2 := (60, 66, 73, True, True, 0, fun _ => 0)) rfl ?_
  refine v_dup dX10_init_83 rfl ?_
  refine v_callIN mX2_init jX2_init rfl nX10_52 dX10_init_84 trivial (Nat.le_of_ble_eq_true rfl) (by decide) (by decide : 60 ≤ 63 ∧ 63 ≤ 66 ∧ 38 ≤ 73) (c_X2_59 ?_)
  refine v_E (E2 := (63, 66, 35, True, True, 0, fun _ => 0)) rfl ?_
  refine v_putr pX10_53 (fun a => ⟨a, rfl⟩) (fun _ => rfl) dX10_init_87 sh_0 rfl (by decide) ?_
  rw [← k_sr]
  refine v_aload_n dX10_init_90 rfl rfl ?_
  refine v_new kNX10_57 dX10_init_91 sh_63 trivial (by decide) (by decide) ?_
  refine v_E (E2 := (64, 66, 29, True, True, 0, fun _ => 0)) rfl ?_
  refine v_dup dX10_init_94 rfl ?_
  refine v_callIN mX1_init jX1_init rfl nX10_59 dX10_init_95 trivial (Nat.le_of_ble_eq_true rfl) (by decide) (by decide : 64 ≤ 66 ∧ 66 ≤ 66 ∧ 29 ≤ 29) (c_X1_63 ?_)
  refine v_E (E2 := (66, 66, 0, True, True, 0, fun _ => 0)) rfl ?_
  refine v_putr pX10_60 (fun a => ⟨a, rfl⟩) (fun _ => rfl) dX10_init_98 sh_0 rfl (by decide) ?_
  rw [← k_sr]
  exact v_vret dX10_init_101 ⟨rfl, fun _ => trivial⟩ h
def C_X11_66 (σ : kS) : kS := (k_si (k_sr (k_wi (k_sr (k_wi (k_sr (k_wl (k_sr (k_wl (k_sr (k_wi (k_sr (k_wi (k_sr (k_wi (k_sr (k_wi (k_sr (k_wi (k_sr (k_wi (k_sr (k_wi (k_si (k_si (k_sr (k_wi (k_sr (k_wi σ 67 (fun _ => 0)) 66 0 67) 68 (fun _ => 0)) 66 1 68) 66 6 (-1)) 66 7 (-1)) 69 (fun _ => 0)) 66 8 69) 70 (fun _ => 0)) 66 11 70) 71 (fun _ => 0)) 66 12 71) 72 (fun _ => 0)) 66 13 72) 73 (fun _ => 0)) 66 15 73) 74 (fun _ => 0)) 66 16 74) 75 (fun _ => 0)) 66 17 75) 76 (fun _ => 0)) 66 18 76) 77 (fun _ => 0)) 66 19 77) 78 (fun _ => 0)) 66 21 78) 79 (fun _ => 0)) 66 22 79) 67 8528 (-1))
set_option maxRecDepth 100000 in
set_option maxHeartbeats 4000000 in
theorem c_X11_66 {d : Nat} {σ : kS} {post : Option Value → kS → Prop} (h : post none (C_X11_66 σ)) : V yX11_init cX11_init 1 none (d + 1) (67, 80, 33668, True, True, 0, fun _ => 0) 0 [some (.ref 66)] [] σ post := by
  refine v_aload_n dX11_init_0 rfl rfl ?_
  refine v_obj oX11_1 k_oI k_oC dX11_init_1 (Nat.le_of_ble_eq_true rfl) ?_
  refine v_aload_n dX11_init_4 rfl rfl ?_
  refine v_sipush (v := 8530) dX11_init_5 (by decide) ?_
  refine v_newi k_cI dX11_init_8 sh_67 rfl (by decide) trivial (by decide) (by decide) ?_
  refine v_E (E2 := (68, 80, 25138, True, True, 0, fun _ => 0)) rfl ?_
  refine v_putr pX11_7 (fun a => ⟨a, rfl⟩) (fun _ => rfl) dX11_init_10 sh_66 rfl (by decide) ?_
  rw [← k_sr]
  refine v_aload_n dX11_init_13 rfl rfl ?_
  refine v_sipush (v := 8530) dX11_init_14 (by decide) ?_
  refine v_newi k_cI dX11_init_17 sh_68 rfl (by decide) trivial (by decide) (by decide) ?_
  refine v_E (E2 := (69, 80, 16608, True, True, 0, fun _ => 0)) rfl ?_
  refine v_putr pX11_13 (fun a => ⟨a, rfl⟩) (fun _ => rfl) dX11_init_19 sh_66 rfl (by decide) ?_
  rw [← k_sr]
  refine v_aload_n dX11_init_22 rfl rfl ?_
  refine v_iconst (v := -1) dX11_init_23 (by decide) ?_
  refine v_puti pX11_16 ⟨_, rfl⟩ (fun _ => rfl) dX11_init_24 sh_66 rfl (by decide) ?_
  rw [← k_si]
  refine v_aload_n dX11_init_27 rfl rfl ?_
  refine v_iconst (v := -1) dX11_init_28 (by decide) ?_
  refine v_puti pX11_20 ⟨_, rfl⟩ (fun _ => rfl) dX11_init_29 sh_66 rfl (by decide) ?_
  rw [← k_si]
  refine v_aload_n dX11_init_32 rfl rfl ?_
  refine v_bipush (v := 40) dX11_init_33 (by decide) ?_
  refine v_newi k_cI dX11_init_35 sh_69 rfl (by decide) trivial (by decide) (by decide) ?_
  refine v_E (E2 := (70, 80, 16568, True, True, 0, fun _ => 0)) rfl ?_
  refine v_putr pX11_23 (fun a => ⟨a, rfl⟩) (fun _ => rfl) dX11_init_37 sh_66 rfl (by decide) ?_
  rw [← k_sr]
  refine v_aload_n dX11_init_40 rfl rfl ?_
  refine v_bipush (v := 30) dX11_init_41 (by decide) ?_
  refine v_newi k_cI dX11_init_43 sh_70 rfl (by decide) trivial (by decide) (by decide) ?_
  refine v_E (E2 := (71, 80, 16538, True, True, 0, fun _ => 0)) rfl ?_
  refine v_putr pX11_26 (fun a => ⟨a, rfl⟩) (fun _ => rfl) dX11_init_45 sh_66 rfl (by decide) ?_
  rw [← k_sr]
  refine v_aload_n dX11_init_48 rfl rfl ?_
  refine v_bipush (v := 30) dX11_init_49 (by decide) ?_
  refine v_newi k_cI dX11_init_51 sh_71 rfl (by decide) trivial (by decide) (by decide) ?_
  refine v_E (E2 := (72, 80, 16508, True, True, 0, fun _ => 0)) rfl ?_
  refine v_putr pX11_29 (fun a => ⟨a, rfl⟩) (fun _ => rfl) dX11_init_53 sh_66 rfl (by decide) ?_
  rw [← k_sr]
  refine v_aload_n dX11_init_56 rfl rfl ?_
  refine v_bipush (v := 6) dX11_init_57 (by decide) ?_
  refine v_newi k_cI dX11_init_59 sh_72 rfl (by decide) trivial (by decide) (by decide) ?_
  refine v_E (E2 := (73, 80, 16502, True, True, 0, fun _ => 0)) rfl ?_
  refine v_putr pX11_32 (fun a => ⟨a, rfl⟩) (fun _ => rfl) dX11_init_61 sh_66 rfl (by decide) ?_
  rw [← k_sr]
  refine v_aload_n dX11_init_64 rfl rfl ?_
  refine v_bipush (v := 36) dX11_init_65 (by decide) ?_
  refine v_newi k_cI dX11_init_67 sh_73 rfl (by decide) trivial (by decide) (by decide) ?_
  refine v_E (E2 := (74, 80, 16466, True, True, 0, fun _ => 0)) rfl ?_
  refine v_putr pX11_35 (fun a => ⟨a, rfl⟩) (fun _ => rfl) dX11_init_69 sh_66 rfl (by decide) ?_
  rw [← k_sr]
  refine v_aload_n dX11_init_72 rfl rfl ?_
  refine v_bipush (v := 30) dX11_init_73 (by decide) ?_
  refine v_newi k_cI dX11_init_75 sh_74 rfl (by decide) trivial (by decide) (by decide) ?_
  refine v_E (E2 := (75, 80, 16436, True, True, 0, fun _ => 0)) rfl ?_
  refine v_putr pX11_38 (fun a => ⟨a, rfl⟩) (fun _ => rfl) dX11_init_77 sh_66 rfl (by decide) ?_
  rw [← k_sr]
  refine v_aload_n dX11_init_80 rfl rfl ?_
  refine v_bipush (v := 18) dX11_init_81 (by decide) ?_
  refine v_newi k_cI dX11_init_83 sh_75 rfl (by decide) trivial (by decide) (by decide) ?_
  refine v_E (E2 := (76, 80, 16418, True, True, 0, fun _ => 0)) rfl ?_
  refine v_putr pX11_41 (fun a => ⟨a, rfl⟩) (fun _ => rfl) dX11_init_85 sh_66 rfl (by decide) ?_
  rw [← k_sr]
  refine v_aload_n dX11_init_88 rfl rfl ?_
  refine v_bipush (v := 10) dX11_init_89 (by decide) ?_
  refine v_newl k_cL dX11_init_91 sh_76 rfl (by decide) trivial (by decide) (by decide) ?_
  refine v_E (E2 := (77, 80, 16408, True, True, 0, fun _ => 0)) rfl ?_
  refine v_putr pX11_44 (fun a => ⟨a, rfl⟩) (fun _ => rfl) dX11_init_93 sh_66 rfl (by decide) ?_
  rw [← k_sr]
  refine v_aload_n dX11_init_96 rfl rfl ?_
  refine v_bipush (v := 10) dX11_init_97 (by decide) ?_
  refine v_newl k_cL dX11_init_99 sh_77 rfl (by decide) trivial (by decide) (by decide) ?_
  refine v_E (E2 := (78, 80, 16398, True, True, 0, fun _ => 0)) rfl ?_
  refine v_putr pX11_48 (fun a => ⟨a, rfl⟩) (fun _ => rfl) dX11_init_101 sh_66 rfl (by decide) ?_
  rw [← k_sr]
  refine v_aload_n dX11_init_104 rfl rfl ?_
  refine v_bipush (v := 14) dX11_init_105 (by decide) ?_
  refine v_newi k_cI dX11_init_107 sh_78 rfl (by decide) trivial (by decide) (by decide) ?_
  refine v_E (E2 := (79, 80, 16384, True, True, 0, fun _ => 0)) rfl ?_
  refine v_putr pX11_51 (fun a => ⟨a, rfl⟩) (fun _ => rfl) dX11_init_109 sh_66 rfl (by decide) ?_
  rw [← k_sr]
  refine v_aload_n dX11_init_112 rfl rfl ?_
  refine v_sipush (v := 16384) dX11_init_113 (by decide) ?_
  refine v_newi k_cI dX11_init_116 sh_79 rfl (by decide) trivial (by decide) (by decide) ?_
  refine v_E (E2 := (80, 80, 0, True, True, 0, fun _ => 0)) rfl ?_
  refine v_putr pX11_54 (fun a => ⟨a, rfl⟩) (fun _ => rfl) dX11_init_118 sh_66 rfl (by decide) ?_
  rw [← k_sr]
  refine v_aload_n dX11_init_121 rfl rfl ?_
  refine v_getr (j := 67) fX11_7 dX11_init_122 sh_66 rfl (by decide) (by simp [k_sr, k_si, k_rr, k_rn, k_ri, k_rl, va_up]) ?_
  refine v_sipush (v := 8528) dX11_init_125 (by decide) ?_
  refine v_iconst (v := -1) dX11_init_128 (by decide) ?_
  refine v_iast dX11_init_129 sh_67 (by decide) (by decide) (j := 8528) rfl (by decide) ?_
  rw [← k_si]
  exact v_vret dX11_init_130 ⟨rfl, fun _ => trivial⟩ h
