def T_X8_tryKey_42 (a1 : Int32) (a2 : Int32) (τ : kT) (post : Int32 → kT → Prop) : Prop := (T_X4_isDouble a2 τ (fun r1 τ2 => ((¬ r1 = 0 → (T_X7_add_43 (4 : Int32) τ2 (fun τ5 => (∃ j6 : Nat, a2 = nI j6 ∧ j6 < 100 ∧ (T_X8_trySingle_42 a1 (q_i τ5 6 j6) (0 : Int32) τ5 (fun r7 τ8 => ((r7 = (1 : Int32) → (∃ j10 : Nat, a2 = nI j10 ∧ j10 < 100 ∧ (T_X8_trySingle_42 a1 (q_i τ8 7 j10) (18 : Int32) τ8 (fun r11 τ12 => post r11 τ12)))) ∧ (¬ r7 = (1 : Int32) → post r7 τ8)))))))) ∧ (r1 = 0 → (T_X8_trySingle_42 a1 a2 (0 : Int32) τ2 (fun r13 τ14 => post r13 τ14))))))
set_option maxRecDepth 100000 in
set_option maxHeartbeats 4000000 in
theorem v_X8_tryKey_42 {d : Nat}  (a1 : Int32) (a2 : Int32) (τ : kT) (post : Int32 → kT → Prop) (h : T_X8_tryKey_42  a1 a2 τ post) : U yX8_tryKey cX8_tryKey 5 (some .int) (d + 3) kE0 0 [some (.ref 42), some (.ref 1), some (.int a1), some (.int a2), none] [] τ (k_pi post) := by
  unfold T_X8_tryKey_42 at h
  refine v_aload_n dX8_tryKey_0 rfl rfl ?_
  refine u_getr fX8_25 dX8_tryKey_1 sh_1 rfl (by decide) (rf_1_0 _) ?_
  refine v_iload_n dX8_tryKey_4 rfl rfl ?_
  refine u_callV [.int a2] mX4_isDouble iX4_isDouble lX8_31 dX8_tryKey_5 sh_2 rfl rfl (by decide) ⟨rfl, rfl, id⟩ rfl rfl (Nat.le_of_ble_eq_true rfl) (Nat.le_of_ble_eq_true rfl) (v_X4_isDouble a2 _ _ h) ?_
  rintro _ τ2 ⟨r1, rfl, h⟩
  refine v_if_ne (tgt := 20) dX8_tryKey_8 (by decide) (fun c3 => ?_) (fun c3 => ?_)
  · have h := h.1 c3
    refine v_aload_n dX8_tryKey_20 rfl rfl ?_
    refine u_getr fX8_12 dX8_tryKey_21 sh_42 rfl (by decide) (rf_42_0 _) ?_
    refine v_iconst (v := 4) dX8_tryKey_24 (by decide) ?_
    refine u_callV [.int (4 : Int32)] mX7_add iX7_add lX8_41 dX8_tryKey_25 sh_43 rfl rfl (by decide) ⟨rfl, rfl, id⟩ rfl rfl (Nat.le_of_ble_eq_true rfl) (Nat.le_of_ble_eq_true rfl) (v_X7_add_43 (4 : Int32) _ _ h) ?_
    rintro _ τ5 ⟨rfl, h⟩
    refine v_aload_n dX8_tryKey_28 rfl rfl ?_
    refine v_aload_n dX8_tryKey_29 rfl rfl ?_
    refine v_iload_n dX8_tryKey_30 rfl rfl ?_
    refine v_aload_n dX8_tryKey_31 rfl rfl ?_
    refine u_getr fX8_25 dX8_tryKey_32 sh_1 rfl (by decide) (rf_1_0 _) ?_
    refine u_getr fX8_45 dX8_tryKey_35 sh_2 rfl (by decide) (rf_2_3 _) ?_
    refine v_iload_n dX8_tryKey_38 rfl rfl ?_
    obtain ⟨j6, e_j6, l_j6, h⟩ := h
    refine u_iald dX8_tryKey_39 sh_6 (by decide) (by decide) e_j6 l_j6 ?_
    refine v_iconst (v := 0) dX8_tryKey_40 (by decide) ?_
    refine u_callV [.ref 1, .int a1, .int (q_i τ5 6 j6), .int (0 : Int32)] mX8_trySingle iX8_trySingle lX8_37 dX8_tryKey_41 sh_42 rfl rfl (by decide) ⟨rfl, rfl, id⟩ rfl rfl (Nat.le_of_ble_eq_true rfl) (Nat.le_of_ble_eq_true rfl) (v_X8_trySingle_42 a1 (q_i τ5 6 j6) (0 : Int32) _ _ h) ?_
    rintro _ τ8 ⟨r7, rfl, h⟩
    refine v_istore dX8_tryKey_44 (by decide) rfl ?_
    refine v_ls (ls2 := [some (.ref 42), some (.ref 1), some (.int a1), some (.int a2), some (.int r7)]) rfl ?_
    refine v_iload dX8_tryKey_46 rfl ?_
    refine v_iconst (v := 1) dX8_tryKey_48 (by decide) ?_
    refine v_icmp_eq (tgt := 55) dX8_tryKey_49 (by decide) (fun c9 => ?_) (fun c9 => ?_)
    · have h := h.1 c9
      refine v_aload_n dX8_tryKey_55 rfl rfl ?_
      refine v_aload_n dX8_tryKey_56 rfl rfl ?_
      refine v_iload_n dX8_tryKey_57 rfl rfl ?_
      refine v_aload_n dX8_tryKey_58 rfl rfl ?_
      refine u_getr fX8_25 dX8_tryKey_59 sh_1 rfl (by decide) (rf_1_0 _) ?_
      refine u_getr fX8_49 dX8_tryKey_62 sh_2 rfl (by decide) (rf_2_4 _) ?_
      refine v_iload_n dX8_tryKey_65 rfl rfl ?_
      obtain ⟨j10, e_j10, l_j10, h⟩ := h
      refine u_iald dX8_tryKey_66 sh_7 (by decide) (by decide) e_j10 l_j10 ?_
      refine v_bipush (v := 18) dX8_tryKey_67 (by decide) ?_
      refine u_callV [.ref 1, .int a1, .int (q_i τ8 7 j10), .int (18 : Int32)] mX8_trySingle iX8_trySingle lX8_37 dX8_tryKey_69 sh_42 rfl rfl (by decide) ⟨rfl, rfl, id⟩ rfl rfl (Nat.le_of_ble_eq_true rfl) (Nat.le_of_ble_eq_true rfl) (v_X8_trySingle_42 a1 (q_i τ8 7 j10) (18 : Int32) _ _ h) ?_
      rintro _ τ12 ⟨r11, rfl, h⟩
      exact u_iret dX8_tryKey_72 ⟨rfl, id⟩ h
    · have h := h.2 c9
      refine v_iload dX8_tryKey_52 rfl ?_
      exact u_iret dX8_tryKey_54 ⟨rfl, id⟩ h
  · have h := h.2 c3
    refine v_aload_n dX8_tryKey_11 rfl rfl ?_
    refine v_aload_n dX8_tryKey_12 rfl rfl ?_
    refine v_iload_n dX8_tryKey_13 rfl rfl ?_
    refine v_iload_n dX8_tryKey_14 rfl rfl ?_
    refine v_iconst (v := 0) dX8_tryKey_15 (by decide) ?_
    refine u_callV [.ref 1, .int a1, .int a2, .int (0 : Int32)] mX8_trySingle iX8_trySingle lX8_37 dX8_tryKey_16 sh_42 rfl rfl (by decide) ⟨rfl, rfl, id⟩ rfl rfl (Nat.le_of_ble_eq_true rfl) (Nat.le_of_ble_eq_true rfl) (v_X8_trySingle_42 a1 a2 (0 : Int32) _ _ h) ?_
    rintro _ τ14 ⟨r13, rfl, h⟩
    exact u_iret dX8_tryKey_19 ⟨rfl, id⟩ h
def L_X10_doorsThatOpen_18  (f1 : Int32) (f2 : Int32) (K : Int32 → Int32 → kT → Prop) (post : Int32 → kT → Prop) : Nat → Int32 → Int32 → kT → Prop
  | 0, _, _, _ => False
  | n + 1, x3, x4, τ => ((f2 ≤ x4 → K x3 x4 τ) ∧ (¬ f2 ≤ x4 → (T_X8_begin_42  τ (fun τ4 => (∃ j5 : Nat, x4 = nI j5 ∧ j5 < 40 ∧ (T_X8_tryKey_42 f1 (q_i τ4 19 j5) τ4 (fun r6 τ7 => ((¬ r6 = (1 : Int32) → (∀ v9 : Int32, v9 = x4 + (1 : Int32) → L_X10_doorsThatOpen_18 f1 f2 K post n x3 v9 τ7)) ∧ (r6 = (1 : Int32) → (∀ v10 : Int32, v10 = (x3 ||| ((1 : Int32) <<< (x4 &&& 31))) → (∀ v11 : Int32, v11 = x4 + (1 : Int32) → L_X10_doorsThatOpen_18 f1 f2 K post n v10 v11 τ7)))))))))))
def T_X10_doorsThatOpen (a1 : Int32) (τ : kT) (post : Int32 → kT → Prop) : Prop := (∀ v1 : Int32, v1 = (q_min (q_i τ 1 4) (31 : Int32)) → (∃ m12 : Nat, L_X10_doorsThatOpen_18  a1 v1 (fun v13 v14 τ15 => post v13 τ15) post m12 (0 : Int32) (0 : Int32) τ))
set_option maxRecDepth 100000 in
set_option maxHeartbeats 4000000 in
theorem l_X10_doorsThatOpen_18 {d : Nat}  (f1 : Int32) (f2 : Int32) {K : Int32 → Int32 → kT → Prop} {post : Int32 → kT → Prop} (hK : ∀ (x3 : Int32) (x4 : Int32) (τ : kT), K x3 x4 τ → U yX10_doorsThatOpen cX10_doorsThatOpen 5 (some .int) (d + 4) kE0 70 [some (.ref 0), some (.int f1), some (.int f2), some (.int x3), some (.int x4)] [] τ (k_pi post)) : ∀ (n : Nat) (x3 : Int32) (x4 : Int32) (τ : kT), L_X10_doorsThatOpen_18  f1 f2 K post n x3 x4 τ → U yX10_doorsThatOpen cX10_doorsThatOpen 5 (some .int) (d + 4) kE0 18 [some (.ref 0), some (.int f1), some (.int f2), some (.int x3), some (.int x4)] [] τ (k_pi post) := by
  intro n
  induction n with
  | zero => intro x3 x4 τ h; exact h.elim
  | succ n ih =>
    intro x3 x4 τ h
    unfold L_X10_doorsThatOpen_18 at h
    refine v_iload dX10_doorsThatOpen_18 rfl ?_
    refine v_iload_n dX10_doorsThatOpen_20 rfl rfl ?_
    refine v_icmp_ge (tgt := 70) dX10_doorsThatOpen_21 (by decide) (fun c2 => ?_) (fun c2 => ?_)
    · have h := h.1 c2
      exact hK x3 x4 _ h
    · have h := h.2 c2
      refine v_aload_n dX10_doorsThatOpen_24 rfl rfl ?_
      refine u_getr fX10_40 dX10_doorsThatOpen_25 sh_0 rfl (by decide) (rf_0_7 _) ?_
      refine u_callV [] mX8_begin iX8_begin lX10_217 dX10_doorsThatOpen_28 sh_42 rfl rfl (by decide) ⟨rfl, rfl, id⟩ rfl rfl (Nat.le_of_ble_eq_true rfl) (Nat.le_of_ble_eq_true rfl) (v_X8_begin_42  _ _ h) ?_
      rintro _ τ4 ⟨rfl, h⟩
      refine v_aload_n dX10_doorsThatOpen_31 rfl rfl ?_
      refine u_getr fX10_40 dX10_doorsThatOpen_32 sh_0 rfl (by decide) (rf_0_7 _) ?_
      refine v_aload_n dX10_doorsThatOpen_35 rfl rfl ?_
      refine u_getr fX10_10 dX10_doorsThatOpen_36 sh_0 rfl (by decide) (rf_0_0 _) ?_
      refine v_iload_n dX10_doorsThatOpen_39 rfl rfl ?_
      refine v_aload_n dX10_doorsThatOpen_40 rfl rfl ?_
      refine u_getr fX10_10 dX10_doorsThatOpen_41 sh_0 rfl (by decide) (rf_0_0 _) ?_
      refine u_getr fX10_225 dX10_doorsThatOpen_44 sh_1 rfl (by decide) (rf_1_3 _) ?_
      refine v_iload dX10_doorsThatOpen_47 rfl ?_
      obtain ⟨j5, e_j5, l_j5, h⟩ := h
      refine u_iald dX10_doorsThatOpen_49 sh_19 (by decide) (by decide) e_j5 l_j5 ?_
      refine u_callV [.ref 1, .int f1, .int (q_i τ4 19 j5)] mX8_tryKey iX8_tryKey lX10_218 dX10_doorsThatOpen_50 sh_42 rfl rfl (by decide) ⟨rfl, rfl, id⟩ rfl rfl (Nat.le_of_ble_eq_true rfl) (Nat.le_of_ble_eq_true rfl) (v_X8_tryKey_42 f1 (q_i τ4 19 j5) _ _ h) ?_
      rintro _ τ7 ⟨r6, rfl, h⟩
      refine v_iconst (v := 1) dX10_doorsThatOpen_53 (by decide) ?_
      refine v_icmp_ne (tgt := 64) dX10_doorsThatOpen_54 (by decide) (fun c8 => ?_) (fun c8 => ?_)
      · have h := h.1 c8
        obtain ⟨v9, e_v9⟩ : ∃ z : Int32, z = x4 + (1 : Int32) := ⟨_, rfl⟩
        have h := h v9 e_v9
        refine v_iinc (v := v9) dX10_doorsThatOpen_64 rfl (by rw [e_v9]; rfl) (by decide) rfl ?_
        refine v_ls (ls2 := [some (.ref 0), some (.int f1), some (.int f2), some (.int x3), some (.int v9)]) rfl ?_
        refine v_goto (tgt := 18) dX10_doorsThatOpen_67 (by decide) ?_
        exact ih x3 v9 _ h
      · have h := h.2 c8
        refine v_iload_n dX10_doorsThatOpen_57 rfl rfl ?_
        refine v_iconst (v := 1) dX10_doorsThatOpen_58 (by decide) ?_
        refine v_iload dX10_doorsThatOpen_59 rfl ?_
        refine v_ishl dX10_doorsThatOpen_61 ?_
        refine v_ior dX10_doorsThatOpen_62 ?_
        refine v_topi (fun v10 e_v10 => ?_)
        have h := h v10 e_v10
        refine v_istore_n dX10_doorsThatOpen_63 rfl (by decide) rfl ?_
        refine v_ls (ls2 := [some (.ref 0), some (.int f1), some (.int f2), some (.int v10), some (.int x4)]) rfl ?_
        obtain ⟨v11, e_v11⟩ : ∃ z : Int32, z = x4 + (1 : Int32) := ⟨_, rfl⟩
        have h := h v11 e_v11
        refine v_iinc (v := v11) dX10_doorsThatOpen_64 rfl (by rw [e_v11]; rfl) (by decide) rfl ?_
        refine v_ls (ls2 := [some (.ref 0), some (.int f1), some (.int f2), some (.int v10), some (.int v11)]) rfl ?_
        refine v_goto (tgt := 18) dX10_doorsThatOpen_67 (by decide) ?_
        exact ih v10 v11 _ h
set_option maxRecDepth 100000 in
set_option maxHeartbeats 4000000 in
theorem v_X10_doorsThatOpen {d : Nat}  (a1 : Int32) (τ : kT) (post : Int32 → kT → Prop) (h : T_X10_doorsThatOpen  a1 τ post) : U yX10_doorsThatOpen cX10_doorsThatOpen 5 (some .int) (d + 4) kE0 0 [some (.ref 0), some (.int a1), none, none, none] [] τ (k_pi post) := by
  unfold T_X10_doorsThatOpen at h
  refine v_aload_n dX10_doorsThatOpen_0 rfl rfl ?_
  refine u_getr fX10_10 dX10_doorsThatOpen_1 sh_0 rfl (by decide) (rf_0_0 _) ?_
  refine u_geti fX10_265 dX10_doorsThatOpen_4 sh_1 rfl (by decide) ?_
  refine v_bipush (v := 31) dX10_doorsThatOpen_7 (by decide) ?_
  refine v_min aX10_335 ⟨rfl, rfl, id⟩ (Nat.le_of_ble_eq_true rfl) dX10_doorsThatOpen_9 ?_
  refine v_topi (fun v1 e_v1 => ?_)
  have h := h v1 e_v1
  refine v_istore_n dX10_doorsThatOpen_12 rfl (by decide) rfl ?_
  refine v_ls (ls2 := [some (.ref 0), some (.int a1), some (.int v1), none, none]) rfl ?_
  refine v_iconst (v := 0) dX10_doorsThatOpen_13 (by decide) ?_
  refine v_istore_n dX10_doorsThatOpen_14 rfl (by decide) rfl ?_
  refine v_ls (ls2 := [some (.ref 0), some (.int a1), some (.int v1), some (.int (0 : Int32)), none]) rfl ?_
  refine v_iconst (v := 0) dX10_doorsThatOpen_15 (by decide) ?_
  refine v_istore dX10_doorsThatOpen_16 (by decide) rfl ?_
  refine v_ls (ls2 := [some (.ref 0), some (.int a1), some (.int v1), some (.int (0 : Int32)), some (.int (0 : Int32))]) rfl ?_
  obtain ⟨m12, h⟩ := h
  refine l_X10_doorsThatOpen_18  a1 v1 (fun v13 v14 τ15 h => ?_) m12 (0 : Int32) (0 : Int32) _ h
  refine v_iload_n dX10_doorsThatOpen_70 rfl rfl ?_
  exact u_iret dX10_doorsThatOpen_71 ⟨rfl, id⟩ h
def L_X3_passOver_15  (f2 : Int32) (f3 : Int32) (K : Int32 → kT → Prop) (post : kT → Prop) : Nat → Int32 → kT → Prop
  | 0, _, _ => False
  | n + 1, x4, τ => (((q_i τ 45 3) ≤ x4 → K x4 τ) ∧ (¬ (q_i τ 45 3) ≤ x4 → (T_X5_cutAt f2 x4 τ (fun r5 τ6 => (∃ j7 : Nat, ((f2 * (5 : Int32)) + x4) = nI j7 ∧ j7 < 30 ∧ (∀ τ8 : kT, τ8 = q_si τ6 51 j7 r5 → (∀ v9 : Int32, v9 = x4 + (1 : Int32) → L_X3_passOver_15 f2 f3 K post n v9 τ8)))))))
def T_X3_passOver (a1 : Int32) (a2 : Int32) (τ : kT) (post : kT → Prop) : Prop := (∀ τ1 : kT, τ1 = q_si τ 45 7 a1 → (∃ j2 : Nat, a1 = nI j2 ∧ j2 < 6 ∧ (∀ τ3 : kT, τ3 = q_si τ1 48 j2 a2 → (∃ m10 : Nat, L_X3_passOver_15  a1 a2 (fun v11 τ12 => post τ12) post m10 (0 : Int32) τ3))))
set_option maxRecDepth 100000 in
set_option maxHeartbeats 4000000 in
theorem l_X3_passOver_15 {d : Nat}  (f2 : Int32) (f3 : Int32) {K : Int32 → kT → Prop} {post : kT → Prop} (hK : ∀ (x4 : Int32) (τ : kT), K x4 τ → U yX3_passOver cX3_passOver 5 none (d + 3) kE0 48 [some (.ref 45), some (.ref 9), some (.int f2), some (.int f3), some (.int x4)] [] τ (k_pv post)) : ∀ (n : Nat) (x4 : Int32) (τ : kT), L_X3_passOver_15  f2 f3 K post n x4 τ → U yX3_passOver cX3_passOver 5 none (d + 3) kE0 15 [some (.ref 45), some (.ref 9), some (.int f2), some (.int f3), some (.int x4)] [] τ (k_pv post) := by
  intro n
  induction n with
  | zero => intro x4 τ h; exact h.elim
  | succ n ih =>
    intro x4 τ h
    unfold L_X3_passOver_15 at h
    refine v_iload dX3_passOver_15 rfl ?_
    refine v_aload_n dX3_passOver_17 rfl rfl ?_
    refine u_geti fX3_45 dX3_passOver_18 sh_45 rfl (by decide) ?_
    refine v_icmp_ge (tgt := 48) dX3_passOver_21 (by decide) (fun c4 => ?_) (fun c4 => ?_)
    · have h := h.1 c4
      exact hK x4 _ h
    · have h := h.2 c4
      refine v_aload_n dX3_passOver_24 rfl rfl ?_
      refine u_getr fX3_31 dX3_passOver_25 sh_45 rfl (by decide) (rf_45_14 _) ?_
      refine v_iload_n dX3_passOver_28 rfl rfl ?_
      refine v_iconst (v := 5) dX3_passOver_29 (by decide) ?_
      refine v_imul dX3_passOver_30 ?_
      refine v_iload dX3_passOver_31 rfl ?_
      refine v_iadd dX3_passOver_33 ?_
      refine v_aload_n dX3_passOver_34 rfl rfl ?_
      refine v_iload_n dX3_passOver_35 rfl rfl ?_
      refine v_iload dX3_passOver_36 rfl ?_
      refine u_callV [.int f2, .int x4] mX5_cutAt iX5_cutAt lX3_94 dX3_passOver_38 sh_9 rfl rfl (by decide) ⟨rfl, rfl, id⟩ rfl rfl (Nat.le_of_ble_eq_true rfl) (Nat.le_of_ble_eq_true rfl) (v_X5_cutAt f2 x4 _ _ h) ?_
      rintro _ τ6 ⟨r5, rfl, h⟩
      obtain ⟨j7, e_j7, l_j7, h⟩ := h
      refine u_iast dX3_passOver_41 sh_51 (by decide) (by decide) e_j7 l_j7 (fun τ8 e_τ8 => ?_)
      have h := h τ8 e_τ8
      obtain ⟨v9, e_v9⟩ : ∃ z : Int32, z = x4 + (1 : Int32) := ⟨_, rfl⟩
      have h := h v9 e_v9
      refine v_iinc (v := v9) dX3_passOver_42 rfl (by rw [e_v9]; rfl) (by decide) rfl ?_
      refine v_ls (ls2 := [some (.ref 45), some (.ref 9), some (.int f2), some (.int f3), some (.int v9)]) rfl ?_
      refine v_goto (tgt := 15) dX3_passOver_45 (by decide) ?_
      exact ih v9 _ h
set_option maxRecDepth 100000 in
set_option maxHeartbeats 4000000 in
theorem v_X3_passOver {d : Nat}  (a1 : Int32) (a2 : Int32) (τ : kT) (post : kT → Prop) (h : T_X3_passOver  a1 a2 τ post) : U yX3_passOver cX3_passOver 5 none (d + 3) kE0 0 [some (.ref 45), some (.ref 9), some (.int a1), some (.int a2), none] [] τ (k_pv post) := by
  unfold T_X3_passOver at h
  refine v_aload_n dX3_passOver_0 rfl rfl ?_
  refine v_iload_n dX3_passOver_1 rfl rfl ?_
  refine u_puti pX3_76 ⟨_, rfl⟩ dX3_passOver_2 sh_45 rfl (by decide) (by decide) (fun τ1 e_τ1 => ?_)
  have h := h τ1 e_τ1
  refine v_aload_n dX3_passOver_5 rfl rfl ?_
  refine u_getr fX3_22 dX3_passOver_6 sh_45 rfl (by decide) (rf_45_9 _) ?_
  refine v_iload_n dX3_passOver_9 rfl rfl ?_
  refine v_iload_n dX3_passOver_10 rfl rfl ?_
  obtain ⟨j2, e_j2, l_j2, h⟩ := h
  refine u_iast dX3_passOver_11 sh_48 (by decide) (by decide) e_j2 l_j2 (fun τ3 e_τ3 => ?_)
  have h := h τ3 e_τ3
  refine v_iconst (v := 0) dX3_passOver_12 (by decide) ?_
  refine v_istore dX3_passOver_13 (by decide) rfl ?_
  refine v_ls (ls2 := [some (.ref 45), some (.ref 9), some (.int a1), some (.int a2), some (.int (0 : Int32))]) rfl ?_
  obtain ⟨m10, h⟩ := h
  refine l_X3_passOver_15  a1 a2 (fun v11 τ12 h => ?_) m10 (0 : Int32) _ h
  exact u_vret dX3_passOver_48 ⟨rfl, id⟩ h
def T_X10_canBePassedOver (a1 : Int32) (a2 : Int32) (τ : kT) (post : Int32 → kT → Prop) : Prop := (T_X5_has a1 τ (fun r1 τ2 => ((r1 = 0 → post (0 : Int32) τ2) ∧ (¬ r1 = 0 → (∃ j4 : Nat, a1 = nI j4 ∧ j4 < 100 ∧ ((¬ (q_i τ2 12 j4) = (-6 : Int32) → post (0 : Int32) τ2) ∧ ((q_i τ2 12 j4) = (-6 : Int32) → (∃ j6 : Nat, a1 = nI j6 ∧ j6 < 100 ∧ ((¬ (q_i τ2 10 j6) = a2 → post (0 : Int32) τ2) ∧ ((q_i τ2 10 j6) = a2 → post (1 : Int32) τ2))))))))))
set_option maxRecDepth 100000 in
set_option maxHeartbeats 4000000 in
theorem v_X10_canBePassedOver {d : Nat}  (a1 : Int32) (a2 : Int32) (τ : kT) (post : Int32 → kT → Prop) (h : T_X10_canBePassedOver  a1 a2 τ post) : U yX10_canBePassedOver cX10_canBePassedOver 3 (some .boolean) (d + 1) kE0 0 [some (.ref 0), some (.int a1), some (.int a2)] [] τ (k_pi post) := by
  unfold T_X10_canBePassedOver at h
  refine v_aload_n dX10_canBePassedOver_0 rfl rfl ?_
  refine u_getr fX10_10 dX10_canBePassedOver_1 sh_0 rfl (by decide) (rf_0_0 _) ?_
  refine u_getr fX10_191 dX10_canBePassedOver_4 sh_1 rfl (by decide) (rf_1_1 _) ?_
  refine v_iload_n dX10_canBePassedOver_7 rfl rfl ?_
  refine u_callV [.int a1] mX5_has iX5_has lX10_202 dX10_canBePassedOver_8 sh_9 rfl rfl (by decide) ⟨rfl, rfl, id⟩ rfl rfl (Nat.le_of_ble_eq_true rfl) (Nat.le_of_ble_eq_true rfl) (v_X5_has a1 _ _ h) ?_
  rintro _ τ2 ⟨r1, rfl, h⟩
  refine v_if_eq (tgt := 51) dX10_canBePassedOver_11 (by decide) (fun c3 => ?_) (fun c3 => ?_)
  · have h := h.1 c3
    refine v_iconst (v := 0) dX10_canBePassedOver_51 (by decide) ?_
    exact u_zret dX10_canBePassedOver_52 rfl ⟨rfl, id⟩ h
  · have h := h.2 c3
    refine v_aload_n dX10_canBePassedOver_14 rfl rfl ?_
    refine u_getr fX10_10 dX10_canBePassedOver_15 sh_0 rfl (by decide) (rf_0_0 _) ?_
    refine u_getr fX10_191 dX10_canBePassedOver_18 sh_1 rfl (by decide) (rf_1_1 _) ?_
    refine u_getr fX10_271 dX10_canBePassedOver_21 sh_9 rfl (by decide) (rf_9_2 _) ?_
    refine v_iload_n dX10_canBePassedOver_24 rfl rfl ?_
    obtain ⟨j4, e_j4, l_j4, h⟩ := h
    refine u_iald dX10_canBePassedOver_25 sh_12 (by decide) (by decide) e_j4 l_j4 ?_
    refine v_bipush (v := -6) dX10_canBePassedOver_26 (by decide) ?_
    refine v_icmp_ne (tgt := 51) dX10_canBePassedOver_28 (by decide) (fun c5 => ?_) (fun c5 => ?_)
    · have h := h.1 c5
      refine v_iconst (v := 0) dX10_canBePassedOver_51 (by decide) ?_
      exact u_zret dX10_canBePassedOver_52 rfl ⟨rfl, id⟩ h
    · have h := h.2 c5
      refine v_aload_n dX10_canBePassedOver_31 rfl rfl ?_
      refine u_getr fX10_10 dX10_canBePassedOver_32 sh_0 rfl (by decide) (rf_0_0 _) ?_
      refine u_getr fX10_191 dX10_canBePassedOver_35 sh_1 rfl (by decide) (rf_1_1 _) ?_
      refine u_getr fX10_203 dX10_canBePassedOver_38 sh_9 rfl (by decide) (rf_9_0 _) ?_
      refine v_iload_n dX10_canBePassedOver_41 rfl rfl ?_
      obtain ⟨j6, e_j6, l_j6, h⟩ := h
      refine u_iald dX10_canBePassedOver_42 sh_10 (by decide) (by decide) e_j6 l_j6 ?_
      refine v_iload_n dX10_canBePassedOver_43 rfl rfl ?_
      refine v_icmp_ne (tgt := 51) dX10_canBePassedOver_44 (by decide) (fun c7 => ?_) (fun c7 => ?_)
      · have h := h.1 c7
        refine v_iconst (v := 0) dX10_canBePassedOver_51 (by decide) ?_
        exact u_zret dX10_canBePassedOver_52 rfl ⟨rfl, id⟩ h
      · have h := h.2 c7
        refine v_iconst (v := 1) dX10_canBePassedOver_47 (by decide) ?_
        refine v_goto (tgt := 52) dX10_canBePassedOver_48 (by decide) ?_
        exact u_zret dX10_canBePassedOver_52 rfl ⟨rfl, id⟩ h
def T_X10_cutByWishes (a1 : Int32) (a2 : Int32) (a3 : Int32) (a4 : Int32) (a5 : Int32) (τ : kT) (post : Int32 → kT → Prop) : Prop := (T_X10_areCuttingSizes a2 a3 a4 a5 τ (fun r1 τ2 => ((¬ r1 = 0 → (((q_i τ2 9 5) < a2 → post (-3 : Int32) τ2) ∧ (¬ (q_i τ2 9 5) < a2 → (((q_i τ2 1 4) < a3 → post (-3 : Int32) τ2) ∧ (¬ (q_i τ2 1 4) < a3 → ((a1 = (-1 : Int32) → (T_X10_doorsRefusal a3 a4 τ2 (fun r7 τ8 => ((r7 = 0 → (T_X3_begin a2 a3 a4 a5 τ8 (fun τ11 => (T_X3_readDoors  τ11 (fun τ13 => (T_X3_readKeys a1 τ13 (fun τ15 => ((a1 = (-1 : Int32) → (T_X3_search  τ15 (fun r17 τ18 => ((¬ r17 = (1 : Int32) → post r17 τ18) ∧ (r17 = (1 : Int32) → (T_X10_remember  τ18 (fun τ21 => (T_X3_carryOut  τ21 (fun τ23 => post r17 τ23))))))))) ∧ (¬ a1 = (-1 : Int32) → (T_X10_doorsThatOpen a1 τ15 (fun r24 τ25 => (T_X3_passOver a1 r24 τ25 (fun τ27 => (T_X3_search  τ27 (fun r28 τ29 => ((¬ r28 = (1 : Int32) → post r28 τ29) ∧ (r28 = (1 : Int32) → (T_X10_remember  τ29 (fun τ32 => (T_X3_carryOut  τ32 (fun τ34 => post r28 τ34))))))))))))))))))))) ∧ (¬ r7 = 0 → post r7 τ8))))) ∧ (¬ a1 = (-1 : Int32) → (T_X10_canBePassedOver a1 a4 τ2 (fun r35 τ36 => ((¬ r35 = 0 → (T_X10_doorsRefusal a3 a4 τ36 (fun r38 τ39 => ((r38 = 0 → (T_X3_begin a2 a3 a4 a5 τ39 (fun τ42 => (T_X3_readDoors  τ42 (fun τ44 => (T_X3_readKeys a1 τ44 (fun τ46 => ((a1 = (-1 : Int32) → (T_X3_search  τ46 (fun r48 τ49 => ((¬ r48 = (1 : Int32) → post r48 τ49) ∧ (r48 = (1 : Int32) → (T_X10_remember  τ49 (fun τ52 => (T_X3_carryOut  τ52 (fun τ54 => post r48 τ54))))))))) ∧ (¬ a1 = (-1 : Int32) → (T_X10_doorsThatOpen a1 τ46 (fun r55 τ56 => (T_X3_passOver a1 r55 τ56 (fun τ58 => (T_X3_search  τ58 (fun r59 τ60 => ((¬ r59 = (1 : Int32) → post r59 τ60) ∧ (r59 = (1 : Int32) → (T_X10_remember  τ60 (fun τ63 => (T_X3_carryOut  τ63 (fun τ65 => post r59 τ65))))))))))))))))))))) ∧ (¬ r38 = 0 → post r38 τ39))))) ∧ (r35 = 0 → post (-3 : Int32) τ36))))))))))) ∧ (r1 = 0 → post (-2 : Int32) τ2))))
set_option maxRecDepth 100000 in
set_option maxHeartbeats 4000000 in
theorem v_X10_cutByWishes {d : Nat}  (a1 : Int32) (a2 : Int32) (a3 : Int32) (a4 : Int32) (a5 : Int32) (τ : kT) (post : Int32 → kT → Prop) (h : T_X10_cutByWishes  a1 a2 a3 a4 a5 τ post) : U yX10_cutByWishes cX10_cutByWishes 8 (some .int) (d + 68) kE0 0 [some (.ref 0), some (.int a1), some (.int a2), some (.int a3), some (.int a4), some (.int a5), none, none] [] τ (k_pi post) := by
  unfold T_X10_cutByWishes at h
  refine v_iload_n dX10_cutByWishes_0 rfl rfl ?_
  refine v_iload_n dX10_cutByWishes_1 rfl rfl ?_
  refine v_iload dX10_cutByWishes_2 rfl ?_
  refine v_iload dX10_cutByWishes_4 rfl ?_
  refine u_callS [.int a2, .int a3, .int a4, .int a5] mX10_areCuttingSizes sX10_areCuttingSizes lX10_284 dX10_cutByWishes_6 ⟨rfl, rfl, id⟩ rfl rfl (Nat.le_of_ble_eq_true rfl) (Nat.le_of_ble_eq_true rfl) (v_X10_areCuttingSizes a2 a3 a4 a5 _ _ h) ?_
  rintro _ τ2 ⟨r1, rfl, h⟩
  refine v_if_ne (tgt := 15) dX10_cutByWishes_9 (by decide) (fun c3 => ?_) (fun c3 => ?_)
  · have h := h.1 c3
    refine v_aload_n dX10_cutByWishes_15 rfl rfl ?_
    refine u_getr fX10_10 dX10_cutByWishes_16 sh_0 rfl (by decide) (rf_0_0 _) ?_
    refine u_getr fX10_191 dX10_cutByWishes_19 sh_1 rfl (by decide) (rf_1_1 _) ?_
    refine u_geti fX10_209 dX10_cutByWishes_22 sh_9 rfl (by decide) ?_
    refine v_iload_n dX10_cutByWishes_25 rfl rfl ?_
    refine v_icmp_lt (tgt := 55) dX10_cutByWishes_26 (by decide) (fun c4 => ?_) (fun c4 => ?_)
    · have h := h.1 c4
      refine v_bipush (v := -3) dX10_cutByWishes_55 (by decide) ?_
      exact u_iret dX10_cutByWishes_57 ⟨rfl, id⟩ h
    · have h := h.2 c4
      refine v_aload_n dX10_cutByWishes_29 rfl rfl ?_
      refine u_getr fX10_10 dX10_cutByWishes_30 sh_0 rfl (by decide) (rf_0_0 _) ?_
      refine u_geti fX10_265 dX10_cutByWishes_33 sh_1 rfl (by decide) ?_
      refine v_iload_n dX10_cutByWishes_36 rfl rfl ?_
      refine v_icmp_lt (tgt := 55) dX10_cutByWishes_37 (by decide) (fun c5 => ?_) (fun c5 => ?_)
      · have h := h.1 c5
        refine v_bipush (v := -3) dX10_cutByWishes_55 (by decide) ?_
        exact u_iret dX10_cutByWishes_57 ⟨rfl, id⟩ h
      · have h := h.2 c5
        refine v_iload_n dX10_cutByWishes_40 rfl rfl ?_
        refine v_iconst (v := -1) dX10_cutByWishes_41 (by decide) ?_
        refine v_icmp_eq (tgt := 58) dX10_cutByWishes_42 (by decide) (fun c6 => ?_) (fun c6 => ?_)
        · have h := h.1 c6
          refine v_aload_n dX10_cutByWishes_58 rfl rfl ?_
          refine v_iload_n dX10_cutByWishes_59 rfl rfl ?_
          refine v_iload dX10_cutByWishes_60 rfl ?_
          refine u_callV [.int a3, .int a4] mX10_doorsRefusal iX10_doorsRefusal lX10_291 dX10_cutByWishes_62 sh_0 rfl rfl (by decide) ⟨rfl, rfl, id⟩ rfl rfl (Nat.le_of_ble_eq_true rfl) (Nat.le_of_ble_eq_true rfl) (v_X10_doorsRefusal a3 a4 _ _ h) ?_
          rintro _ τ8 ⟨r7, rfl, h⟩
          refine v_istore dX10_cutByWishes_65 (by decide) rfl ?_
          refine v_ls (ls2 := [some (.ref 0), some (.int a1), some (.int a2), some (.int a3), some (.int a4), some (.int a5), some (.int r7), none]) rfl ?_
          refine v_iload dX10_cutByWishes_67 rfl ?_
          refine v_if_eq (tgt := 75) dX10_cutByWishes_69 (by decide) (fun c9 => ?_) (fun c9 => ?_)
          · have h := h.1 c9
            refine v_aload_n dX10_cutByWishes_75 rfl rfl ?_
            refine u_getr fX10_46 dX10_cutByWishes_76 sh_0 rfl (by decide) (rf_0_8 _) ?_
            refine v_iload_n dX10_cutByWishes_79 rfl rfl ?_
            refine v_iload_n dX10_cutByWishes_80 rfl rfl ?_
            refine v_iload dX10_cutByWishes_81 rfl ?_
            refine v_iload dX10_cutByWishes_83 rfl ?_
            refine u_callV [.int a2, .int a3, .int a4, .int a5] mX3_begin iX3_begin lX10_294 dX10_cutByWishes_85 sh_45 rfl rfl (by decide) ⟨rfl, rfl, id⟩ rfl rfl (Nat.le_of_ble_eq_true rfl) (Nat.le_of_ble_eq_true rfl) (v_X3_begin a2 a3 a4 a5 _ _ h) ?_
            rintro _ τ11 ⟨rfl, h⟩
            refine v_aload_n dX10_cutByWishes_88 rfl rfl ?_
            refine u_getr fX10_46 dX10_cutByWishes_89 sh_0 rfl (by decide) (rf_0_8 _) ?_
            refine v_aload_n dX10_cutByWishes_92 rfl rfl ?_
            refine u_getr fX10_10 dX10_cutByWishes_93 sh_0 rfl (by decide) (rf_0_0 _) ?_
            refine u_callV [.ref 1] mX3_readDoors iX3_readDoors lX10_297 dX10_cutByWishes_96 sh_45 rfl rfl (by decide) ⟨rfl, rfl, id⟩ rfl rfl (Nat.le_of_ble_eq_true rfl) (Nat.le_of_ble_eq_true rfl) (v_X3_readDoors  _ _ h) ?_
            rintro _ τ13 ⟨rfl, h⟩
            refine v_aload_n dX10_cutByWishes_99 rfl rfl ?_
            refine u_getr fX10_46 dX10_cutByWishes_100 sh_0 rfl (by decide) (rf_0_8 _) ?_
            refine v_aload_n dX10_cutByWishes_103 rfl rfl ?_
            refine u_getr fX10_10 dX10_cutByWishes_104 sh_0 rfl (by decide) (rf_0_0 _) ?_
            refine u_getr fX10_191 dX10_cutByWishes_107 sh_1 rfl (by decide) (rf_1_1 _) ?_
            refine v_iload_n dX10_cutByWishes_110 rfl rfl ?_
            refine u_callV [.ref 9, .int a1] mX3_readKeys iX3_readKeys lX10_301 dX10_cutByWishes_111 sh_45 rfl rfl (by decide) ⟨rfl, rfl, id⟩ rfl rfl (Nat.le_of_ble_eq_true rfl) (Nat.le_of_ble_eq_true rfl) (v_X3_readKeys a1 _ _ h) ?_
            rintro _ τ15 ⟨rfl, h⟩
            refine v_iload_n dX10_cutByWishes_114 rfl rfl ?_
            refine v_iconst (v := -1) dX10_cutByWishes_115 (by decide) ?_
            refine v_icmp_eq (tgt := 139) dX10_cutByWishes_116 (by decide) (fun c16 => ?_) (fun c16 => ?_)
            · have h := h.1 c16
              refine v_aload_n dX10_cutByWishes_139 rfl rfl ?_
              refine u_getr fX10_46 dX10_cutByWishes_140 sh_0 rfl (by decide) (rf_0_8 _) ?_
              refine u_callV [] mX3_search iX3_search lX10_312 dX10_cutByWishes_143 sh_45 rfl rfl (by decide) ⟨rfl, rfl, id⟩ rfl rfl (Nat.le_of_ble_eq_true rfl) (Nat.le_of_ble_eq_true rfl) (v_X3_search  _ _ h) ?_
              rintro _ τ18 ⟨r17, rfl, h⟩
              refine v_istore dX10_cutByWishes_146 (by decide) rfl ?_
              refine v_ls (ls2 := [some (.ref 0), some (.int a1), some (.int a2), some (.int a3), some (.int a4), some (.int a5), some (.int r7), some (.int r17)]) rfl ?_
              refine v_iload dX10_cutByWishes_148 rfl ?_
              refine v_iconst (v := 1) dX10_cutByWishes_150 (by decide) ?_
              refine v_icmp_ne (tgt := 169) dX10_cutByWishes_151 (by decide) (fun c19 => ?_) (fun c19 => ?_)
              · have h := h.1 c19
                refine v_iload dX10_cutByWishes_169 rfl ?_
                exact u_iret dX10_cutByWishes_171 ⟨rfl, id⟩ h
              · have h := h.2 c19
                refine v_aload_n dX10_cutByWishes_154 rfl rfl ?_
                refine u_callV [] mX10_remember iX10_remember lX10_81 dX10_cutByWishes_155 sh_0 rfl rfl (by decide) ⟨rfl, rfl, id⟩ rfl rfl (Nat.le_of_ble_eq_true rfl) (Nat.le_of_ble_eq_true rfl) (v_X10_remember  _ _ h) ?_
                rintro _ τ21 ⟨rfl, h⟩
                refine v_aload_n dX10_cutByWishes_158 rfl rfl ?_
                refine u_getr fX10_46 dX10_cutByWishes_159 sh_0 rfl (by decide) (rf_0_8 _) ?_
                refine v_aload_n dX10_cutByWishes_162 rfl rfl ?_
                refine u_getr fX10_10 dX10_cutByWishes_163 sh_0 rfl (by decide) (rf_0_0 _) ?_
                refine u_callV [.ref 1] mX3_carryOut iX3_carryOut lX10_315 dX10_cutByWishes_166 sh_45 rfl rfl (by decide) ⟨rfl, rfl, id⟩ rfl rfl (Nat.le_of_ble_eq_true rfl) (Nat.le_of_ble_eq_true rfl) (v_X3_carryOut  _ _ h) ?_
                rintro _ τ23 ⟨rfl, h⟩
                refine v_iload dX10_cutByWishes_169 rfl ?_
                exact u_iret dX10_cutByWishes_171 ⟨rfl, id⟩ h
            · have h := h.2 c16
              refine v_aload_n dX10_cutByWishes_119 rfl rfl ?_
              refine u_getr fX10_46 dX10_cutByWishes_120 sh_0 rfl (by decide) (rf_0_8 _) ?_
              refine v_aload_n dX10_cutByWishes_123 rfl rfl ?_
              refine u_getr fX10_10 dX10_cutByWishes_124 sh_0 rfl (by decide) (rf_0_0 _) ?_
              refine u_getr fX10_191 dX10_cutByWishes_127 sh_1 rfl (by decide) (rf_1_1 _) ?_
              refine v_iload_n dX10_cutByWishes_130 rfl rfl ?_
              refine v_aload_n dX10_cutByWishes_131 rfl rfl ?_
              refine v_iload_n dX10_cutByWishes_132 rfl rfl ?_
              refine u_callV [.int a1] mX10_doorsThatOpen iX10_doorsThatOpen lX10_305 dX10_cutByWishes_133 sh_0 rfl rfl (by decide) ⟨rfl, rfl, id⟩ rfl rfl (Nat.le_of_ble_eq_true rfl) (Nat.le_of_ble_eq_true rfl) (v_X10_doorsThatOpen a1 _ _ h) ?_
              rintro _ τ25 ⟨r24, rfl, h⟩
              refine u_callV [.ref 9, .int a1, .int r24] mX3_passOver iX3_passOver lX10_308 dX10_cutByWishes_136 sh_45 rfl rfl (by decide) ⟨rfl, rfl, id⟩ rfl rfl (Nat.le_of_ble_eq_true rfl) (Nat.le_of_ble_eq_true rfl) (v_X3_passOver a1 r24 _ _ h) ?_
              rintro _ τ27 ⟨rfl, h⟩
              refine v_aload_n dX10_cutByWishes_139 rfl rfl ?_
              refine u_getr fX10_46 dX10_cutByWishes_140 sh_0 rfl (by decide) (rf_0_8 _) ?_
              refine u_callV [] mX3_search iX3_search lX10_312 dX10_cutByWishes_143 sh_45 rfl rfl (by decide) ⟨rfl, rfl, id⟩ rfl rfl (Nat.le_of_ble_eq_true rfl) (Nat.le_of_ble_eq_true rfl) (v_X3_search  _ _ h) ?_
              rintro _ τ29 ⟨r28, rfl, h⟩
              refine v_istore dX10_cutByWishes_146 (by decide) rfl ?_
              refine v_ls (ls2 := [some (.ref 0), some (.int a1), some (.int a2), some (.int a3), some (.int a4), some (.int a5), some (.int r7), some (.int r28)]) rfl ?_
              refine v_iload dX10_cutByWishes_148 rfl ?_
              refine v_iconst (v := 1) dX10_cutByWishes_150 (by decide) ?_
              refine v_icmp_ne (tgt := 169) dX10_cutByWishes_151 (by decide) (fun c30 => ?_) (fun c30 => ?_)
              · have h := h.1 c30
                refine v_iload dX10_cutByWishes_169 rfl ?_
                exact u_iret dX10_cutByWishes_171 ⟨rfl, id⟩ h
              · have h := h.2 c30
                refine v_aload_n dX10_cutByWishes_154 rfl rfl ?_
                refine u_callV [] mX10_remember iX10_remember lX10_81 dX10_cutByWishes_155 sh_0 rfl rfl (by decide) ⟨rfl, rfl, id⟩ rfl rfl (Nat.le_of_ble_eq_true rfl) (Nat.le_of_ble_eq_true rfl) (v_X10_remember  _ _ h) ?_
                rintro _ τ32 ⟨rfl, h⟩
                refine v_aload_n dX10_cutByWishes_158 rfl rfl ?_
                refine u_getr fX10_46 dX10_cutByWishes_159 sh_0 rfl (by decide) (rf_0_8 _) ?_
                refine v_aload_n dX10_cutByWishes_162 rfl rfl ?_
                refine u_getr fX10_10 dX10_cutByWishes_163 sh_0 rfl (by decide) (rf_0_0 _) ?_
                refine u_callV [.ref 1] mX3_carryOut iX3_carryOut lX10_315 dX10_cutByWishes_166 sh_45 rfl rfl (by decide) ⟨rfl, rfl, id⟩ rfl rfl (Nat.le_of_ble_eq_true rfl) (Nat.le_of_ble_eq_true rfl) (v_X3_carryOut  _ _ h) ?_
                rintro _ τ34 ⟨rfl, h⟩
                refine v_iload dX10_cutByWishes_169 rfl ?_
                exact u_iret dX10_cutByWishes_171 ⟨rfl, id⟩ h
          · have h := h.2 c9
            refine v_iload dX10_cutByWishes_72 rfl ?_
            exact u_iret dX10_cutByWishes_74 ⟨rfl, id⟩ h
        · have h := h.2 c6
          refine v_aload_n dX10_cutByWishes_45 rfl rfl ?_
          refine v_iload_n dX10_cutByWishes_46 rfl rfl ?_
          refine v_iload dX10_cutByWishes_47 rfl ?_
          refine u_callV [.int a1, .int a4] mX10_canBePassedOver iX10_canBePassedOver lX10_288 dX10_cutByWishes_49 sh_0 rfl rfl (by decide) ⟨rfl, rfl, id⟩ rfl rfl (Nat.le_of_ble_eq_true rfl) (Nat.le_of_ble_eq_true rfl) (v_X10_canBePassedOver a1 a4 _ _ h) ?_
          rintro _ τ36 ⟨r35, rfl, h⟩
          refine v_if_ne (tgt := 58) dX10_cutByWishes_52 (by decide) (fun c37 => ?_) (fun c37 => ?_)
          · have h := h.1 c37
            refine v_aload_n dX10_cutByWishes_58 rfl rfl ?_
            refine v_iload_n dX10_cutByWishes_59 rfl rfl ?_
            refine v_iload dX10_cutByWishes_60 rfl ?_
            refine u_callV [.int a3, .int a4] mX10_doorsRefusal iX10_doorsRefusal lX10_291 dX10_cutByWishes_62 sh_0 rfl rfl (by decide) ⟨rfl, rfl, id⟩ rfl rfl (Nat.le_of_ble_eq_true rfl) (Nat.le_of_ble_eq_true rfl) (v_X10_doorsRefusal a3 a4 _ _ h) ?_
            rintro _ τ39 ⟨r38, rfl, h⟩
            refine v_istore dX10_cutByWishes_65 (by decide) rfl ?_
            refine v_ls (ls2 := [some (.ref 0), some (.int a1), some (.int a2), some (.int a3), some (.int a4), some (.int a5), some (.int r38), none]) rfl ?_
            refine v_iload dX10_cutByWishes_67 rfl ?_
            refine v_if_eq (tgt := 75) dX10_cutByWishes_69 (by decide) (fun c40 => ?_) (fun c40 => ?_)
            · have h := h.1 c40
              refine v_aload_n dX10_cutByWishes_75 rfl rfl ?_
              refine u_getr fX10_46 dX10_cutByWishes_76 sh_0 rfl (by decide) (rf_0_8 _) ?_
              refine v_iload_n dX10_cutByWishes_79 rfl rfl ?_
              refine v_iload_n dX10_cutByWishes_80 rfl rfl ?_
              refine v_iload dX10_cutByWishes_81 rfl ?_
              refine v_iload dX10_cutByWishes_83 rfl ?_
              refine u_callV [.int a2, .int a3, .int a4, .int a5] mX3_begin iX3_begin lX10_294 dX10_cutByWishes_85 sh_45 rfl rfl (by decide) ⟨rfl, rfl, id⟩ rfl rfl (Nat.le_of_ble_eq_true rfl) (Nat.le_of_ble_eq_true rfl) (v_X3_begin a2 a3 a4 a5 _ _ h) ?_
              rintro _ τ42 ⟨rfl, h⟩
              refine v_aload_n dX10_cutByWishes_88 rfl rfl ?_
              refine u_getr fX10_46 dX10_cutByWishes_89 sh_0 rfl (by decide) (rf_0_8 _) ?_
              refine v_aload_n dX10_cutByWishes_92 rfl rfl ?_
              refine u_getr fX10_10 dX10_cutByWishes_93 sh_0 rfl (by decide) (rf_0_0 _) ?_
              refine u_callV [.ref 1] mX3_readDoors iX3_readDoors lX10_297 dX10_cutByWishes_96 sh_45 rfl rfl (by decide) ⟨rfl, rfl, id⟩ rfl rfl (Nat.le_of_ble_eq_true rfl) (Nat.le_of_ble_eq_true rfl) (v_X3_readDoors  _ _ h) ?_
              rintro _ τ44 ⟨rfl, h⟩
              refine v_aload_n dX10_cutByWishes_99 rfl rfl ?_
              refine u_getr fX10_46 dX10_cutByWishes_100 sh_0 rfl (by decide) (rf_0_8 _) ?_
              refine v_aload_n dX10_cutByWishes_103 rfl rfl ?_
              refine u_getr fX10_10 dX10_cutByWishes_104 sh_0 rfl (by decide) (rf_0_0 _) ?_
              refine u_getr fX10_191 dX10_cutByWishes_107 sh_1 rfl (by decide) (rf_1_1 _) ?_
              refine v_iload_n dX10_cutByWishes_110 rfl rfl ?_
              refine u_callV [.ref 9, .int a1] mX3_readKeys iX3_readKeys lX10_301 dX10_cutByWishes_111 sh_45 rfl rfl (by decide) ⟨rfl, rfl, id⟩ rfl rfl (Nat.le_of_ble_eq_true rfl) (Nat.le_of_ble_eq_true rfl) (v_X3_readKeys a1 _ _ h) ?_
              rintro _ τ46 ⟨rfl, h⟩
              refine v_iload_n dX10_cutByWishes_114 rfl rfl ?_
              refine v_iconst (v := -1) dX10_cutByWishes_115 (by decide) ?_
              refine v_icmp_eq (tgt := 139) dX10_cutByWishes_116 (by decide) (fun c47 => ?_) (fun c47 => ?_)
              · have h := h.1 c47
                refine v_aload_n dX10_cutByWishes_139 rfl rfl ?_
                refine u_getr fX10_46 dX10_cutByWishes_140 sh_0 rfl (by decide) (rf_0_8 _) ?_
                refine u_callV [] mX3_search iX3_search lX10_312 dX10_cutByWishes_143 sh_45 rfl rfl (by decide) ⟨rfl, rfl, id⟩ rfl rfl (Nat.le_of_ble_eq_true rfl) (Nat.le_of_ble_eq_true rfl) (v_X3_search  _ _ h) ?_
                rintro _ τ49 ⟨r48, rfl, h⟩
                refine v_istore dX10_cutByWishes_146 (by decide) rfl ?_
                refine v_ls (ls2 := [some (.ref 0), some (.int a1), some (.int a2), some (.int a3), some (.int a4), some (.int a5), some (.int r38), some (.int r48)]) rfl ?_
                refine v_iload dX10_cutByWishes_148 rfl ?_
                refine v_iconst (v := 1) dX10_cutByWishes_150 (by decide) ?_
                refine v_icmp_ne (tgt := 169) dX10_cutByWishes_151 (by decide) (fun c50 => ?_) (fun c50 => ?_)
                · have h := h.1 c50
                  refine v_iload dX10_cutByWishes_169 rfl ?_
                  exact u_iret dX10_cutByWishes_171 ⟨rfl, id⟩ h
                · have h := h.2 c50
                  refine v_aload_n dX10_cutByWishes_154 rfl rfl ?_
                  refine u_callV [] mX10_remember iX10_remember lX10_81 dX10_cutByWishes_155 sh_0 rfl rfl (by decide) ⟨rfl, rfl, id⟩ rfl rfl (Nat.le_of_ble_eq_true rfl) (Nat.le_of_ble_eq_true rfl) (v_X10_remember  _ _ h) ?_
                  rintro _ τ52 ⟨rfl, h⟩
                  refine v_aload_n dX10_cutByWishes_158 rfl rfl ?_
                  refine u_getr fX10_46 dX10_cutByWishes_159 sh_0 rfl (by decide) (rf_0_8 _) ?_
                  refine v_aload_n dX10_cutByWishes_162 rfl rfl ?_
                  refine u_getr fX10_10 dX10_cutByWishes_163 sh_0 rfl (by decide) (rf_0_0 _) ?_
                  refine u_callV [.ref 1] mX3_carryOut iX3_carryOut lX10_315 dX10_cutByWishes_166 sh_45 rfl rfl (by decide) ⟨rfl, rfl, id⟩ rfl rfl (Nat.le_of_ble_eq_true rfl) (Nat.le_of_ble_eq_true rfl) (v_X3_carryOut  _ _ h) ?_
                  rintro _ τ54 ⟨rfl, h⟩
                  refine v_iload dX10_cutByWishes_169 rfl ?_
                  exact u_iret dX10_cutByWishes_171 ⟨rfl, id⟩ h
              · have h := h.2 c47
                refine v_aload_n dX10_cutByWishes_119 rfl rfl ?_
                refine u_getr fX10_46 dX10_cutByWishes_120 sh_0 rfl (by decide) (rf_0_8 _) ?_
                refine v_aload_n dX10_cutByWishes_123 rfl rfl ?_
                refine u_getr fX10_10 dX10_cutByWishes_124 sh_0 rfl (by decide) (rf_0_0 _) ?_
                refine u_getr fX10_191 dX10_cutByWishes_127 sh_1 rfl (by decide) (rf_1_1 _) ?_
                refine v_iload_n dX10_cutByWishes_130 rfl rfl ?_
                refine v_aload_n dX10_cutByWishes_131 rfl rfl ?_
                refine v_iload_n dX10_cutByWishes_132 rfl rfl ?_
                refine u_callV [.int a1] mX10_doorsThatOpen iX10_doorsThatOpen lX10_305 dX10_cutByWishes_133 sh_0 rfl rfl (by decide) ⟨rfl, rfl, id⟩ rfl rfl (Nat.le_of_ble_eq_true rfl) (Nat.le_of_ble_eq_true rfl) (v_X10_doorsThatOpen a1 _ _ h) ?_
                rintro _ τ56 ⟨r55, rfl, h⟩
                refine u_callV [.ref 9, .int a1, .int r55] mX3_passOver iX3_passOver lX10_308 dX10_cutByWishes_136 sh_45 rfl rfl (by decide) ⟨rfl, rfl, id⟩ rfl rfl (Nat.le_of_ble_eq_true rfl) (Nat.le_of_ble_eq_true rfl) (v_X3_passOver a1 r55 _ _ h) ?_
                rintro _ τ58 ⟨rfl, h⟩
                refine v_aload_n dX10_cutByWishes_139 rfl rfl ?_
                refine u_getr fX10_46 dX10_cutByWishes_140 sh_0 rfl (by decide) (rf_0_8 _) ?_
                refine u_callV [] mX3_search iX3_search lX10_312 dX10_cutByWishes_143 sh_45 rfl rfl (by decide) ⟨rfl, rfl, id⟩ rfl rfl (Nat.le_of_ble_eq_true rfl) (Nat.le_of_ble_eq_true rfl) (v_X3_search  _ _ h) ?_
                rintro _ τ60 ⟨r59, rfl, h⟩
                refine v_istore dX10_cutByWishes_146 (by decide) rfl ?_
                refine v_ls (ls2 := [some (.ref 0), some (.int a1), some (.int a2), some (.int a3), some (.int a4), some (.int a5), some (.int r38), some (.int r59)]) rfl ?_
                refine v_iload dX10_cutByWishes_148 rfl ?_
                refine v_iconst (v := 1) dX10_cutByWishes_150 (by decide) ?_
                refine v_icmp_ne (tgt := 169) dX10_cutByWishes_151 (by decide) (fun c61 => ?_) (fun c61 => ?_)
                · have h := h.1 c61
                  refine v_iload dX10_cutByWishes_169 rfl ?_
                  exact u_iret dX10_cutByWishes_171 ⟨rfl, id⟩ h
                · have h := h.2 c61
                  refine v_aload_n dX10_cutByWishes_154 rfl rfl ?_
                  refine u_callV [] mX10_remember iX10_remember lX10_81 dX10_cutByWishes_155 sh_0 rfl rfl (by decide) ⟨rfl, rfl, id⟩ rfl rfl (Nat.le_of_ble_eq_true rfl) (Nat.le_of_ble_eq_true rfl) (v_X10_remember  _ _ h) ?_
                  rintro _ τ63 ⟨rfl, h⟩
                  refine v_aload_n dX10_cutByWishes_158 rfl rfl ?_
                  refine u_getr fX10_46 dX10_cutByWishes_159 sh_0 rfl (by decide) (rf_0_8 _) ?_
                  refine v_aload_n dX10_cutByWishes_162 rfl rfl ?_
                  refine u_getr fX10_10 dX10_cutByWishes_163 sh_0 rfl (by decide) (rf_0_0 _) ?_
                  refine u_callV [.ref 1] mX3_carryOut iX3_carryOut lX10_315 dX10_cutByWishes_166 sh_45 rfl rfl (by decide) ⟨rfl, rfl, id⟩ rfl rfl (Nat.le_of_ble_eq_true rfl) (Nat.le_of_ble_eq_true rfl) (v_X3_carryOut  _ _ h) ?_
                  rintro _ τ65 ⟨rfl, h⟩
                  refine v_iload dX10_cutByWishes_169 rfl ?_
                  exact u_iret dX10_cutByWishes_171 ⟨rfl, id⟩ h
            · have h := h.2 c40
              refine v_iload dX10_cutByWishes_72 rfl ?_
              exact u_iret dX10_cutByWishes_74 ⟨rfl, id⟩ h
          · have h := h.2 c37
            refine v_bipush (v := -3) dX10_cutByWishes_55 (by decide) ?_
            exact u_iret dX10_cutByWishes_57 ⟨rfl, id⟩ h
  · have h := h.2 c3
    refine v_bipush (v := -2) dX10_cutByWishes_12 (by decide) ?_
    exact u_iret dX10_cutByWishes_14 ⟨rfl, id⟩ h
def T_X10_work (a1 : Int32) (a2 : Int32) (a3 : Int32) (a4 : Int32) (τ : kT) (post : Int32 → kT → Prop) : Prop := (T_X10_cutByWishes (-1 : Int32) a1 a2 a3 a4 τ (fun r1 τ2 => (T_X10_settle r1 τ2 (fun r3 τ4 => post r3 τ4))))
set_option maxRecDepth 100000 in
set_option maxHeartbeats 4000000 in
theorem v_X10_work {d : Nat}  (a1 : Int32) (a2 : Int32) (a3 : Int32) (a4 : Int32) (τ : kT) (post : Int32 → kT → Prop) (h : T_X10_work  a1 a2 a3 a4 τ post) : U yX10_work cX10_work 5 (some .int) (d + 69) kE0 0 [some (.ref 0), some (.int a1), some (.int a2), some (.int a3), some (.int a4)] [] τ (k_pi post) := by
  unfold T_X10_work at h
  refine v_aload_n dX10_work_0 rfl rfl ?_
  refine v_aload_n dX10_work_1 rfl rfl ?_
  refine v_iconst (v := -1) dX10_work_2 (by decide) ?_
  refine v_iload_n dX10_work_3 rfl rfl ?_
  refine v_iload_n dX10_work_4 rfl rfl ?_
  refine v_iload_n dX10_work_5 rfl rfl ?_
  refine v_iload dX10_work_6 rfl ?_
  refine u_callV [.int (-1 : Int32), .int a1, .int a2, .int a3, .int a4] mX10_cutByWishes iX10_cutByWishes lX10_280 dX10_work_8 sh_0 rfl rfl (by decide) ⟨rfl, rfl, id⟩ rfl rfl (Nat.le_of_ble_eq_true rfl) (Nat.le_of_ble_eq_true rfl) (v_X10_cutByWishes (-1 : Int32) a1 a2 a3 a4 _ _ h) ?_
  rintro _ τ2 ⟨r1, rfl, h⟩
  refine u_callV [.int r1] mX10_settle iX10_settle lX10_68 dX10_work_11 sh_0 rfl rfl (by decide) ⟨rfl, rfl, id⟩ rfl rfl (Nat.le_of_ble_eq_true rfl) (Nat.le_of_ble_eq_true rfl) (v_X10_settle r1 _ _ h) ?_
  rintro _ τ4 ⟨r3, rfl, h⟩
  exact u_iret dX10_work_14 ⟨rfl, id⟩ h
def T_X10_anew (a1 : Int32) (a2 : Int32) (a3 : Int32) (a4 : Int32) (a5 : Int32) (τ : kT) (post : Int32 → kT → Prop) : Prop := ((a1 < 0 → (((0 : Int32) = 0 → post (-2 : Int32) τ) ∧ (¬ (0 : Int32) = 0 → (T_X10_cutByWishes a1 a2 a3 a4 a5 τ (fun r3 τ4 => (T_X10_settle r3 τ4 (fun r5 τ6 => post r5 τ6))))))) ∧ (¬ a1 < 0 → ((a2 ≤ a1 → (((0 : Int32) = 0 → post (-2 : Int32) τ) ∧ (¬ (0 : Int32) = 0 → (T_X10_cutByWishes a1 a2 a3 a4 a5 τ (fun r9 τ10 => (T_X10_settle r9 τ10 (fun r11 τ12 => post r11 τ12))))))) ∧ (¬ a2 ≤ a1 → (((1 : Int32) = 0 → post (-2 : Int32) τ) ∧ (¬ (1 : Int32) = 0 → (T_X10_cutByWishes a1 a2 a3 a4 a5 τ (fun r14 τ15 => (T_X10_settle r14 τ15 (fun r16 τ17 => post r16 τ17))))))))))
set_option maxRecDepth 100000 in
set_option maxHeartbeats 4000000 in
theorem v_X10_anew {d : Nat}  (a1 : Int32) (a2 : Int32) (a3 : Int32) (a4 : Int32) (a5 : Int32) (τ : kT) (post : Int32 → kT → Prop) (h : T_X10_anew  a1 a2 a3 a4 a5 τ post) : U yX10_anew cX10_anew 7 (some .int) (d + 69) kE0 0 [some (.ref 0), some (.int a1), some (.int a2), some (.int a3), some (.int a4), some (.int a5), none] [] τ (k_pi post) := by
  unfold T_X10_anew at h
  refine v_iload_n dX10_anew_0 rfl rfl ?_
  refine v_if_lt (tgt := 13) dX10_anew_1 (by decide) (fun c1 => ?_) (fun c1 => ?_)
  · have h := h.1 c1
    refine v_iconst (v := 0) dX10_anew_13 (by decide) ?_
    refine v_istore dX10_anew_14 (by decide) rfl ?_
    refine v_ls (ls2 := [some (.ref 0), some (.int a1), some (.int a2), some (.int a3), some (.int a4), some (.int a5), some (.int (0 : Int32))]) rfl ?_
    refine v_iload dX10_anew_16 rfl ?_
    refine v_if_eq (tgt := 39) dX10_anew_18 (by decide) (fun c2 => ?_) (fun c2 => ?_)
    · have h := h.1 c2
      refine v_bipush (v := -2) dX10_anew_39 (by decide) ?_
      exact u_iret dX10_anew_41 ⟨rfl, id⟩ h
    · have h := h.2 c2
      refine v_aload_n dX10_anew_21 rfl rfl ?_
      refine v_aload_n dX10_anew_22 rfl rfl ?_
      refine v_iload_n dX10_anew_23 rfl rfl ?_
      refine v_iload_n dX10_anew_24 rfl rfl ?_
      refine v_iload_n dX10_anew_25 rfl rfl ?_
      refine v_iload dX10_anew_26 rfl ?_
      refine v_iload dX10_anew_28 rfl ?_
      refine u_callV [.int a1, .int a2, .int a3, .int a4, .int a5] mX10_cutByWishes iX10_cutByWishes lX10_280 dX10_anew_30 sh_0 rfl rfl (by decide) ⟨rfl, rfl, id⟩ rfl rfl (Nat.le_of_ble_eq_true rfl) (Nat.le_of_ble_eq_true rfl) (v_X10_cutByWishes a1 a2 a3 a4 a5 _ _ h) ?_
      rintro _ τ4 ⟨r3, rfl, h⟩
      refine u_callV [.int r3] mX10_settle iX10_settle lX10_68 dX10_anew_33 sh_0 rfl rfl (by decide) ⟨rfl, rfl, id⟩ rfl rfl (Nat.le_of_ble_eq_true rfl) (Nat.le_of_ble_eq_true rfl) (v_X10_settle r3 _ _ h) ?_
      rintro _ τ6 ⟨r5, rfl, h⟩
      refine v_goto (tgt := 41) dX10_anew_36 (by decide) ?_
      exact u_iret dX10_anew_41 ⟨rfl, id⟩ h
  · have h := h.2 c1
    refine v_iload_n dX10_anew_4 rfl rfl ?_
    refine v_iload_n dX10_anew_5 rfl rfl ?_
    refine v_icmp_ge (tgt := 13) dX10_anew_6 (by decide) (fun c7 => ?_) (fun c7 => ?_)
    · have h := h.1 c7
      refine v_iconst (v := 0) dX10_anew_13 (by decide) ?_
      refine v_istore dX10_anew_14 (by decide) rfl ?_
      refine v_ls (ls2 := [some (.ref 0), some (.int a1), some (.int a2), some (.int a3), some (.int a4), some (.int a5), some (.int (0 : Int32))]) rfl ?_
      refine v_iload dX10_anew_16 rfl ?_
      refine v_if_eq (tgt := 39) dX10_anew_18 (by decide) (fun c8 => ?_) (fun c8 => ?_)
      · have h := h.1 c8
        refine v_bipush (v := -2) dX10_anew_39 (by decide) ?_
        exact u_iret dX10_anew_41 ⟨rfl, id⟩ h
      · have h := h.2 c8
        refine v_aload_n dX10_anew_21 rfl rfl ?_
        refine v_aload_n dX10_anew_22 rfl rfl ?_
        refine v_iload_n dX10_anew_23 rfl rfl ?_
        refine v_iload_n dX10_anew_24 rfl rfl ?_
        refine v_iload_n dX10_anew_25 rfl rfl ?_
        refine v_iload dX10_anew_26 rfl ?_
        refine v_iload dX10_anew_28 rfl ?_
        refine u_callV [.int a1, .int a2, .int a3, .int a4, .int a5] mX10_cutByWishes iX10_cutByWishes lX10_280 dX10_anew_30 sh_0 rfl rfl (by decide) ⟨rfl, rfl, id⟩ rfl rfl (Nat.le_of_ble_eq_true rfl) (Nat.le_of_ble_eq_true rfl) (v_X10_cutByWishes a1 a2 a3 a4 a5 _ _ h) ?_
        rintro _ τ10 ⟨r9, rfl, h⟩
        refine u_callV [.int r9] mX10_settle iX10_settle lX10_68 dX10_anew_33 sh_0 rfl rfl (by decide) ⟨rfl, rfl, id⟩ rfl rfl (Nat.le_of_ble_eq_true rfl) (Nat.le_of_ble_eq_true rfl) (v_X10_settle r9 _ _ h) ?_
        rintro _ τ12 ⟨r11, rfl, h⟩
        refine v_goto (tgt := 41) dX10_anew_36 (by decide) ?_
        exact u_iret dX10_anew_41 ⟨rfl, id⟩ h
    · have h := h.2 c7
      refine v_iconst (v := 1) dX10_anew_9 (by decide) ?_
      refine v_goto (tgt := 14) dX10_anew_10 (by decide) ?_
      refine v_istore dX10_anew_14 (by decide) rfl ?_
      refine v_ls (ls2 := [some (.ref 0), some (.int a1), some (.int a2), some (.int a3), some (.int a4), some (.int a5), some (.int (1 : Int32))]) rfl ?_
      refine v_iload dX10_anew_16 rfl ?_
      refine v_if_eq (tgt := 39) dX10_anew_18 (by decide) (fun c13 => ?_) (fun c13 => ?_)
      · have h := h.1 c13
        refine v_bipush (v := -2) dX10_anew_39 (by decide) ?_
        exact u_iret dX10_anew_41 ⟨rfl, id⟩ h
      · have h := h.2 c13
        refine v_aload_n dX10_anew_21 rfl rfl ?_
        refine v_aload_n dX10_anew_22 rfl rfl ?_
        refine v_iload_n dX10_anew_23 rfl rfl ?_
        refine v_iload_n dX10_anew_24 rfl rfl ?_
        refine v_iload_n dX10_anew_25 rfl rfl ?_
        refine v_iload dX10_anew_26 rfl ?_
        refine v_iload dX10_anew_28 rfl ?_
        refine u_callV [.int a1, .int a2, .int a3, .int a4, .int a5] mX10_cutByWishes iX10_cutByWishes lX10_280 dX10_anew_30 sh_0 rfl rfl (by decide) ⟨rfl, rfl, id⟩ rfl rfl (Nat.le_of_ble_eq_true rfl) (Nat.le_of_ble_eq_true rfl) (v_X10_cutByWishes a1 a2 a3 a4 a5 _ _ h) ?_
        rintro _ τ15 ⟨r14, rfl, h⟩
        refine u_callV [.int r14] mX10_settle iX10_settle lX10_68 dX10_anew_33 sh_0 rfl rfl (by decide) ⟨rfl, rfl, id⟩ rfl rfl (Nat.le_of_ble_eq_true rfl) (Nat.le_of_ble_eq_true rfl) (v_X10_settle r14 _ _ h) ?_
        rintro _ τ17 ⟨r16, rfl, h⟩
        refine v_goto (tgt := 41) dX10_anew_36 (by decide) ?_
        exact u_iret dX10_anew_41 ⟨rfl, id⟩ h
def T_X10_trials  (τ : kT) (post : Int32 → kT → Prop) : Prop := post (q_i τ 45 0) τ
set_option maxRecDepth 100000 in
set_option maxHeartbeats 4000000 in
theorem v_X10_trials {d : Nat}   (τ : kT) (post : Int32 → kT → Prop) (h : T_X10_trials   τ post) : U yX10_trials cX10_trials 1 (some .int) (d + 0) kE0 0 [some (.ref 0)] [] τ (k_pi post) := by
  unfold T_X10_trials at h
  refine v_aload_n dX10_trials_0 rfl rfl ?_
  refine u_getr fX10_46 dX10_trials_1 sh_0 rfl (by decide) (rf_0_8 _) ?_
  refine u_geti fX10_321 dX10_trials_4 sh_45 rfl (by decide) ?_
  exact u_iret dX10_trials_7 ⟨rfl, id⟩ h
def T_X2_isMissing (a1 : Int32) (τ : kT) (post : Int32 → kT → Prop) : Prop := ((a1 = (-1 : Int32) → post (1 : Int32) τ) ∧ (¬ a1 = (-1 : Int32) → (T_X4_isOut a1 τ (fun r2 τ3 => ((r2 = 0 → post (0 : Int32) τ3) ∧ (¬ r2 = 0 → post (1 : Int32) τ3))))))
set_option maxRecDepth 100000 in
set_option maxHeartbeats 4000000 in
theorem v_X2_isMissing {d : Nat}  (a1 : Int32) (τ : kT) (post : Int32 → kT → Prop) (h : T_X2_isMissing  a1 τ post) : U yX2_isMissing cX2_isMissing 2 (some .boolean) (d + 2) kE0 0 [some (.ref 2), some (.int a1)] [] τ (k_pi post) := by
  unfold T_X2_isMissing at h
  refine v_iload_n dX2_isMissing_0 rfl rfl ?_
  refine v_iconst (v := -1) dX2_isMissing_1 (by decide) ?_
  refine v_icmp_eq (tgt := 13) dX2_isMissing_2 (by decide) (fun c1 => ?_) (fun c1 => ?_)
  · have h := h.1 c1
    refine v_iconst (v := 1) dX2_isMissing_13 (by decide) ?_
    refine v_goto (tgt := 18) dX2_isMissing_14 (by decide) ?_
    exact u_zret dX2_isMissing_18 rfl ⟨rfl, id⟩ h
  · have h := h.2 c1
    refine v_aload_n dX2_isMissing_5 rfl rfl ?_
    refine v_iload_n dX2_isMissing_6 rfl rfl ?_
    refine u_callV [.int a1] mX4_isOut iX4_isOut lX2_48 dX2_isMissing_7 sh_2 rfl rfl (by decide) ⟨rfl, rfl, id⟩ rfl rfl (Nat.le_of_ble_eq_true rfl) (Nat.le_of_ble_eq_true rfl) (v_X4_isOut a1 _ _ h) ?_
    rintro _ τ3 ⟨r2, rfl, h⟩
    refine v_if_eq (tgt := 17) dX2_isMissing_10 (by decide) (fun c4 => ?_) (fun c4 => ?_)
    · have h := h.1 c4
      refine v_iconst (v := 0) dX2_isMissing_17 (by decide) ?_
      exact u_zret dX2_isMissing_18 rfl ⟨rfl, id⟩ h
    · have h := h.2 c4
      refine v_iconst (v := 1) dX2_isMissing_13 (by decide) ?_
      refine v_goto (tgt := 18) dX2_isMissing_14 (by decide) ?_
      exact u_zret dX2_isMissing_18 rfl ⟨rfl, id⟩ h
def L_X2_narrow_13  (f2 : Int32) (f3 : Int32) (K : Int32 → kT → Prop) (post : Int32 → kT → Prop) : Nat → Int32 → kT → Prop
  | 0, _, _ => False
  | n + 1, x4, τ => (∃ j4 : Nat, f2 = nI j4 ∧ j4 < 100 ∧ (((q_i τ 4 j4) ≤ x4 → K x4 τ) ∧ (¬ (q_i τ 4 j4) ≤ x4 → (T_X4_heightsIn f2 x4 τ (fun r6 τ7 => ((¬ r6 = 0 → ((x4 < f3 → (∃ j10 : Nat, x4 = nI j10 ∧ j10 < 18 ∧ (∃ j11 : Nat, x4 = nI j11 ∧ j11 < 18 ∧ (∀ τ12 : kT, τ12 = q_si τ7 60 j11 ((q_i τ7 60 j10) &&& r6) → (∀ v13 : Int32, v13 = x4 + (1 : Int32) → L_X2_narrow_13 f2 f3 K post n v13 τ12))))) ∧ (¬ x4 < f3 → post (0 : Int32) τ7))) ∧ (r6 = 0 → (∀ v14 : Int32, v14 = x4 + (1 : Int32) → L_X2_narrow_13 f2 f3 K post n v14 τ7))))))))
def T_X2_narrow (a1 : Int32) (a2 : Int32) (τ : kT) (post : Int32 → kT → Prop) : Prop := (T_X4_isBlind a1 τ (fun r1 τ2 => ((r1 = 0 → (∃ m15 : Nat, L_X2_narrow_13  a1 a2 (fun v16 τ17 => post (1 : Int32) τ17) post m15 (0 : Int32) τ2)) ∧ (¬ r1 = 0 → post (0 : Int32) τ2))))
set_option maxRecDepth 100000 in
set_option maxHeartbeats 4000000 in
theorem l_X2_narrow_13 {d : Nat}  (f2 : Int32) (f3 : Int32) {K : Int32 → kT → Prop} {post : Int32 → kT → Prop} (hK : ∀ (x4 : Int32) (τ : kT), K x4 τ → U yX2_narrow cX2_narrow 6 (some .boolean) (d + 3) kE0 67 [some (.ref 59), some (.ref 2), some (.int f2), some (.int f3), some (.int x4), none] [] τ (k_pi post)) : ∀ (n : Nat) (x4 : Int32) (τ : kT), L_X2_narrow_13  f2 f3 K post n x4 τ → U yX2_narrow cX2_narrow 6 (some .boolean) (d + 3) kE0 13 [some (.ref 59), some (.ref 2), some (.int f2), some (.int f3), some (.int x4), none] [] τ (k_pi post) := by
  intro n
  induction n with
  | zero => intro x4 τ h; exact h.elim
  | succ n ih =>
    intro x4 τ h
    unfold L_X2_narrow_13 at h
    refine v_iload dX2_narrow_13 rfl ?_
    refine v_aload_n dX2_narrow_15 rfl rfl ?_
    refine u_getr fX2_54 dX2_narrow_16 sh_2 rfl (by decide) (rf_2_1 _) ?_
    refine v_iload_n dX2_narrow_19 rfl rfl ?_
    obtain ⟨j4, e_j4, l_j4, h⟩ := h
    refine u_iald dX2_narrow_20 sh_4 (by decide) (by decide) e_j4 l_j4 ?_
    refine v_icmp_ge (tgt := 67) dX2_narrow_21 (by decide) (fun c5 => ?_) (fun c5 => ?_)
    · have h := h.1 c5
      exact hK x4 _ h
    · have h := h.2 c5
      refine v_aload_n dX2_narrow_24 rfl rfl ?_
      refine v_iload_n dX2_narrow_25 rfl rfl ?_
      refine v_iload dX2_narrow_26 rfl ?_
      refine u_callV [.int f2, .int x4] mX4_heightsIn iX4_heightsIn lX2_56 dX2_narrow_28 sh_2 rfl rfl (by decide) ⟨rfl, rfl, id⟩ rfl rfl (Nat.le_of_ble_eq_true rfl) (Nat.le_of_ble_eq_true rfl) (v_X4_heightsIn f2 x4 _ _ h) ?_
      rintro _ τ7 ⟨r6, rfl, h⟩
      refine v_istore dX2_narrow_31 (by decide) rfl ?_
      refine v_ls (ls2 := [some (.ref 59), some (.ref 2), some (.int f2), some (.int f3), some (.int x4), some (.int r6)]) rfl ?_
      refine v_iload dX2_narrow_33 rfl ?_
      refine v_if_ne (tgt := 41) dX2_narrow_35 (by decide) (fun c8 => ?_) (fun c8 => ?_)
      · have h := h.1 c8
        refine v_iload dX2_narrow_41 rfl ?_
        refine v_iload_n dX2_narrow_43 rfl rfl ?_
        refine v_icmp_lt (tgt := 49) dX2_narrow_44 (by decide) (fun c9 => ?_) (fun c9 => ?_)
        · have h := h.1 c9
          refine v_aload_n dX2_narrow_49 rfl rfl ?_
          refine u_getr fX2_9 dX2_narrow_50 sh_59 rfl (by decide) (rf_59_0 _) ?_
          refine v_iload dX2_narrow_53 rfl ?_
          refine v_dup2 dX2_narrow_55 rfl rfl ?_
          obtain ⟨j10, e_j10, l_j10, h⟩ := h
          refine u_iald dX2_narrow_56 sh_60 (by decide) (by decide) e_j10 l_j10 ?_
          refine v_iload dX2_narrow_57 rfl ?_
          refine v_iand dX2_narrow_59 ?_
          obtain ⟨j11, e_j11, l_j11, h⟩ := h
          refine u_iast dX2_narrow_60 sh_60 (by decide) (by decide) e_j11 l_j11 (fun τ12 e_τ12 => ?_)
          have h := h τ12 e_τ12
          obtain ⟨v13, e_v13⟩ : ∃ z : Int32, z = x4 + (1 : Int32) := ⟨_, rfl⟩
          have h := h v13 e_v13
          refine v_iinc (v := v13) dX2_narrow_61 rfl (by rw [e_v13]; rfl) (by decide) rfl ?_
          refine v_ls (ls2 := [some (.ref 59), some (.ref 2), some (.int f2), some (.int f3), some (.int v13), some (.int r6)]) rfl ?_
          refine v_goto (tgt := 13) dX2_narrow_64 (by decide) ?_
          refine v_none 5 ?_
          refine v_ls (ls2 := [some (.ref 59), some (.ref 2), some (.int f2), some (.int f3), some (.int v13), none]) rfl ?_
          exact ih v13 _ h
        · have h := h.2 c9
          refine v_iconst (v := 0) dX2_narrow_47 (by decide) ?_
          exact u_zret dX2_narrow_48 rfl ⟨rfl, id⟩ h
      · have h := h.2 c8
        refine v_goto (tgt := 61) dX2_narrow_38 (by decide) ?_
        obtain ⟨v14, e_v14⟩ : ∃ z : Int32, z = x4 + (1 : Int32) := ⟨_, rfl⟩
        have h := h v14 e_v14
        refine v_iinc (v := v14) dX2_narrow_61 rfl (by rw [e_v14]; rfl) (by decide) rfl ?_
        refine v_ls (ls2 := [some (.ref 59), some (.ref 2), some (.int f2), some (.int f3), some (.int v14), some (.int r6)]) rfl ?_
        refine v_goto (tgt := 13) dX2_narrow_64 (by decide) ?_
        refine v_none 5 ?_
        refine v_ls (ls2 := [some (.ref 59), some (.ref 2), some (.int f2), some (.int f3), some (.int v14), none]) rfl ?_
        exact ih v14 _ h
set_option maxRecDepth 100000 in
set_option maxHeartbeats 4000000 in
theorem v_X2_narrow {d : Nat}  (a1 : Int32) (a2 : Int32) (τ : kT) (post : Int32 → kT → Prop) (h : T_X2_narrow  a1 a2 τ post) : U yX2_narrow cX2_narrow 6 (some .boolean) (d + 3) kE0 0 [some (.ref 59), some (.ref 2), some (.int a1), some (.int a2), none, none] [] τ (k_pi post) := by
  unfold T_X2_narrow at h
  refine v_aload_n dX2_narrow_0 rfl rfl ?_
  refine v_iload_n dX2_narrow_1 rfl rfl ?_
  refine u_callV [.int a1] mX4_isBlind iX4_isBlind lX2_51 dX2_narrow_2 sh_2 rfl rfl (by decide) ⟨rfl, rfl, id⟩ rfl rfl (Nat.le_of_ble_eq_true rfl) (Nat.le_of_ble_eq_true rfl) (v_X4_isBlind a1 _ _ h) ?_
  rintro _ τ2 ⟨r1, rfl, h⟩
  refine v_if_eq (tgt := 10) dX2_narrow_5 (by decide) (fun c3 => ?_) (fun c3 => ?_)
  · have h := h.1 c3
    refine v_iconst (v := 0) dX2_narrow_10 (by decide) ?_
    refine v_istore dX2_narrow_11 (by decide) rfl ?_
    refine v_ls (ls2 := [some (.ref 59), some (.ref 2), some (.int a1), some (.int a2), some (.int (0 : Int32)), none]) rfl ?_
    obtain ⟨m15, h⟩ := h
    refine l_X2_narrow_13  a1 a2 (fun v16 τ17 h => ?_) m15 (0 : Int32) _ h
    refine v_iconst (v := 1) dX2_narrow_67 (by decide) ?_
    exact u_zret dX2_narrow_68 rfl ⟨rfl, id⟩ h
  · have h := h.2 c3
    refine v_iconst (v := 0) dX2_narrow_8 (by decide) ?_
    exact u_zret dX2_narrow_9 rfl ⟨rfl, id⟩ h
def L_X2_rowsNear_21  (f1 : Int32) (f2 : Int32) (f3 : Int32) (K : Int64 → Int32 → kT → Prop) (post : Int64 → kT → Prop) : Nat → Int64 → Int32 → kT → Prop
  | 0, _, _, _ => False
  | n + 1, x4, x6, τ => ((f3 < x6 → K x4 x6 τ) ∧ (¬ f3 < x6 → (∃ j4 : Nat, x6 = nI j4 ∧ j4 < 10 ∧ (∀ v5 : Int64, v5 = (x4 + (q_l τ (q_c1 τ) j4)) → (∀ v6 : Int32, v6 = x6 + (1 : Int32) → L_X2_rowsNear_21 f1 f2 f3 K post n v5 v6 τ)))))
def T_X2_rowsNear (a1 : Int32) (a2 : Int32) (τ : kT) (post : Int64 → kT → Prop) : Prop := (∀ v1 : Int32, v1 = (q_min (9 : Int32) (a1 + a2)) → (∀ v2 : Int32, v2 = (q_max (0 : Int32) (a1 - a2)) → (∃ m7 : Nat, L_X2_rowsNear_21  a1 a2 v1 (fun v8 v9 τ10 => post v8 τ10) post m7 (0 : Int64) v2 τ)))
set_option maxRecDepth 100000 in
set_option maxHeartbeats 4000000 in
theorem l_X2_rowsNear_21 {d : Nat}  (f1 : Int32) (f2 : Int32) (f3 : Int32) {K : Int64 → Int32 → kT → Prop} {post : Int64 → kT → Prop} (hK : ∀ (x4 : Int64) (x6 : Int32) (τ : kT), K x4 x6 τ → U yX2_rowsNear cX2_rowsNear 7 (some .long) (d + 1) kE0 45 [some (.ref 59), some (.int f1), some (.int f2), some (.int f3), some (.long x4), none, some (.int x6)] [] τ (k_pl post)) : ∀ (n : Nat) (x4 : Int64) (x6 : Int32) (τ : kT), L_X2_rowsNear_21  f1 f2 f3 K post n x4 x6 τ → U yX2_rowsNear cX2_rowsNear 7 (some .long) (d + 1) kE0 21 [some (.ref 59), some (.int f1), some (.int f2), some (.int f3), some (.long x4), none, some (.int x6)] [] τ (k_pl post) := by
  intro n
  induction n with
  | zero => intro x4 x6 τ h; exact h.elim
  | succ n ih =>
    intro x4 x6 τ h
    unfold L_X2_rowsNear_21 at h
    refine v_iload dX2_rowsNear_21 rfl ?_
    refine v_iload_n dX2_rowsNear_23 rfl rfl ?_
    refine v_icmp_gt (tgt := 45) dX2_rowsNear_24 (by decide) (fun c3 => ?_) (fun c3 => ?_)
    · have h := h.1 c3
      exact hK x4 x6 _ h
    · have h := h.2 c3
      refine v_lload dX2_rowsNear_27 rfl ?_
      refine v_aload_n dX2_rowsNear_29 rfl rfl ?_
      refine u_getr fX2_15 dX2_rowsNear_30 sh_59 rfl (by decide) (rf_59_1 _) ?_
      refine v_iload dX2_rowsNear_33 rfl ?_
      obtain ⟨j4, e_j4, l_j4, h⟩ := h
      refine u_lald dX2_rowsNear_35 (k_c1_sh _) (k_c1_lt _) (by decide) e_j4 l_j4 ?_
      refine v_ladd dX2_rowsNear_36 ?_
      refine v_topl (fun v5 e_v5 => ?_)
      have h := h v5 e_v5
      refine v_lstore dX2_rowsNear_37 (by decide) rfl ?_
      refine v_ls (ls2 := [some (.ref 59), some (.int f1), some (.int f2), some (.int f3), some (.long v5), none, some (.int x6)]) rfl ?_
      obtain ⟨v6, e_v6⟩ : ∃ z : Int32, z = x6 + (1 : Int32) := ⟨_, rfl⟩
      have h := h v6 e_v6
      refine v_iinc (v := v6) dX2_rowsNear_39 rfl (by rw [e_v6]; rfl) (by decide) rfl ?_
      refine v_ls (ls2 := [some (.ref 59), some (.int f1), some (.int f2), some (.int f3), some (.long v5), none, some (.int v6)]) rfl ?_
      refine v_goto (tgt := 21) dX2_rowsNear_42 (by decide) ?_
      exact ih v5 v6 _ h
set_option maxRecDepth 100000 in
set_option maxHeartbeats 4000000 in
theorem v_X2_rowsNear {d : Nat}  (a1 : Int32) (a2 : Int32) (τ : kT) (post : Int64 → kT → Prop) (h : T_X2_rowsNear  a1 a2 τ post) : U yX2_rowsNear cX2_rowsNear 7 (some .long) (d + 1) kE0 0 [some (.ref 59), some (.int a1), some (.int a2), none, none, none, none] [] τ (k_pl post) := by
  unfold T_X2_rowsNear at h
  refine v_bipush (v := 9) dX2_rowsNear_0 (by decide) ?_
  refine v_iload_n dX2_rowsNear_2 rfl rfl ?_
  refine v_iload_n dX2_rowsNear_3 rfl rfl ?_
  refine v_iadd dX2_rowsNear_4 ?_
  refine v_min aX2_67 ⟨rfl, rfl, id⟩ (Nat.le_of_ble_eq_true rfl) dX2_rowsNear_5 ?_
  refine v_topi (fun v1 e_v1 => ?_)
  have h := h v1 e_v1
  refine v_istore_n dX2_rowsNear_8 rfl (by decide) rfl ?_
  refine v_ls (ls2 := [some (.ref 59), some (.int a1), some (.int a2), some (.int v1), none, none, none]) rfl ?_
  refine v_lconst (v := 0) dX2_rowsNear_9 (by decide) ?_
  refine v_lstore dX2_rowsNear_10 (by decide) rfl ?_
  refine v_ls (ls2 := [some (.ref 59), some (.int a1), some (.int a2), some (.int v1), some (.long (0 : Int64)), none, none]) rfl ?_
  refine v_iconst (v := 0) dX2_rowsNear_12 (by decide) ?_
  refine v_iload_n dX2_rowsNear_13 rfl rfl ?_
  refine v_iload_n dX2_rowsNear_14 rfl rfl ?_
  refine v_isub dX2_rowsNear_15 ?_
  refine v_max aX2_72 ⟨rfl, rfl, id⟩ (Nat.le_of_ble_eq_true rfl) dX2_rowsNear_16 ?_
  refine v_topi (fun v2 e_v2 => ?_)
  have h := h v2 e_v2
  refine v_istore dX2_rowsNear_19 (by decide) rfl ?_
  refine v_ls (ls2 := [some (.ref 59), some (.int a1), some (.int a2), some (.int v1), some (.long (0 : Int64)), none, some (.int v2)]) rfl ?_
  obtain ⟨m7, h⟩ := h
  refine l_X2_rowsNear_21  a1 a2 v1 (fun v8 v9 τ10 h => ?_) m7 (0 : Int64) v2 _ h
  refine v_lload dX2_rowsNear_45 rfl ?_
  exact u_lret dX2_rowsNear_47 ⟨rfl, id⟩ h
def L_X2_lengthen_2  (f1 : Int32) (f2 : Int32) (K : Int32 → kT → Prop) (post : kT → Prop) : Nat → Int32 → kT → Prop
  | 0, _, _ => False
  | n + 1, x3, τ => (((9 : Int32) < x3 → K x3 τ) ∧ (¬ (9 : Int32) < x3 → ((¬ (f1 &&& ((1 : Int32) <<< (x3 &&& 31))) = 0 → (T_X2_rowsNear x3 f2 τ (fun r3 τ4 => (∃ j5 : Nat, x3 = nI j5 ∧ j5 < 10 ∧ (∀ τ6 : kT, τ6 = q_sl τ4 (q_c2 τ) j5 r3 → (∀ v7 : Int32, v7 = x3 + (1 : Int32) → L_X2_lengthen_2 f1 f2 K post n v7 τ6)))))) ∧ ((f1 &&& ((1 : Int32) <<< (x3 &&& 31))) = 0 → (∃ j8 : Nat, x3 = nI j8 ∧ j8 < 10 ∧ (∀ τ9 : kT, τ9 = q_sl τ (q_c2 τ) j8 (0 : Int64) → (∀ v10 : Int32, v10 = x3 + (1 : Int32) → L_X2_lengthen_2 f1 f2 K post n v10 τ9)))))))
def T_X2_lengthen (a1 : Int32) (a2 : Int32) (τ : kT) (post : kT → Prop) : Prop := (∃ m11 : Nat, L_X2_lengthen_2  a1 a2 (fun v12 τ13 => post (q_sw τ13)) post m11 (0 : Int32) τ)
set_option maxRecDepth 100000 in
set_option maxHeartbeats 4000000 in
theorem l_X2_lengthen_2 {d : Nat}  (f1 : Int32) (f2 : Int32) {K : Int32 → kT → Prop} {post : kT → Prop} (hK : ∀ (x3 : Int32) (τ : kT), K x3 τ → U yX2_lengthen cX2_lengthen 4 none (d + 2) kE0 38 [some (.ref 59), some (.int f1), some (.int f2), some (.int x3)] [] τ (k_pv post)) : ∀ (n : Nat) (x3 : Int32) (τ : kT), L_X2_lengthen_2  f1 f2 K post n x3 τ → U yX2_lengthen cX2_lengthen 4 none (d + 2) kE0 2 [some (.ref 59), some (.int f1), some (.int f2), some (.int x3)] [] τ (k_pv post) := by
  intro n
  induction n with
  | zero => intro x3 τ h; exact h.elim
  | succ n ih =>
    intro x3 τ h
    unfold L_X2_lengthen_2 at h
    refine v_iload_n dX2_lengthen_2 rfl rfl ?_
    refine v_bipush (v := 9) dX2_lengthen_3 (by decide) ?_
    refine v_icmp_gt (tgt := 38) dX2_lengthen_5 (by decide) (fun c1 => ?_) (fun c1 => ?_)
    · have h := h.1 c1
      exact hK x3 _ h
    · have h := h.2 c1
      refine v_aload_n dX2_lengthen_8 rfl rfl ?_
      refine u_getr fX2_19 dX2_lengthen_9 sh_59 rfl (by decide) (rf_59_2 _) ?_
      refine v_iload_n dX2_lengthen_12 rfl rfl ?_
      refine v_iload_n dX2_lengthen_13 rfl rfl ?_
      refine v_iconst (v := 1) dX2_lengthen_14 (by decide) ?_
      refine v_iload_n dX2_lengthen_15 rfl rfl ?_
      refine v_ishl dX2_lengthen_16 ?_
      refine v_iand dX2_lengthen_17 ?_
      refine v_if_ne (tgt := 25) dX2_lengthen_18 (by decide) (fun c2 => ?_) (fun c2 => ?_)
      · have h := h.1 c2
        refine v_aload_n dX2_lengthen_25 rfl rfl ?_
        refine v_iload_n dX2_lengthen_26 rfl rfl ?_
        refine v_iload_n dX2_lengthen_27 rfl rfl ?_
        refine u_callV [.int x3, .int f2] mX2_rowsNear iX2_rowsNear lX2_64 dX2_lengthen_28 sh_59 rfl rfl (by decide) ⟨rfl, rfl, id⟩ rfl rfl (Nat.le_of_ble_eq_true rfl) (Nat.le_of_ble_eq_true rfl) (v_X2_rowsNear x3 f2 _ _ h) ?_
        rintro _ τ4 ⟨r3, rfl, h⟩
        obtain ⟨j5, e_j5, l_j5, h⟩ := h
        refine u_last id dX2_lengthen_31 (k_c2_sh _) (k_c2_lt _) (by decide) e_j5 l_j5 (fun τ6 e_τ6 => ?_)
        have h := h τ6 e_τ6
        obtain ⟨v7, e_v7⟩ : ∃ z : Int32, z = x3 + (1 : Int32) := ⟨_, rfl⟩
        have h := h v7 e_v7
        refine v_iinc (v := v7) dX2_lengthen_32 rfl (by rw [e_v7]; rfl) (by decide) rfl ?_
        refine v_ls (ls2 := [some (.ref 59), some (.int f1), some (.int f2), some (.int v7)]) rfl ?_
        refine v_goto (tgt := 2) dX2_lengthen_35 (by decide) ?_
        exact ih v7 _ h
      · have h := h.2 c2
        refine v_lconst (v := 0) dX2_lengthen_21 (by decide) ?_
        refine v_goto (tgt := 31) dX2_lengthen_22 (by decide) ?_
        obtain ⟨j8, e_j8, l_j8, h⟩ := h
        refine u_last id dX2_lengthen_31 (k_c2_sh _) (k_c2_lt _) (by decide) e_j8 l_j8 (fun τ9 e_τ9 => ?_)
        have h := h τ9 e_τ9
        obtain ⟨v10, e_v10⟩ : ∃ z : Int32, z = x3 + (1 : Int32) := ⟨_, rfl⟩
        have h := h v10 e_v10
        refine v_iinc (v := v10) dX2_lengthen_32 rfl (by rw [e_v10]; rfl) (by decide) rfl ?_
        refine v_ls (ls2 := [some (.ref 59), some (.int f1), some (.int f2), some (.int v10)]) rfl ?_
        refine v_goto (tgt := 2) dX2_lengthen_35 (by decide) ?_
        exact ih v10 _ h
set_option maxRecDepth 100000 in
set_option maxHeartbeats 4000000 in
theorem v_X2_lengthen {d : Nat}  (a1 : Int32) (a2 : Int32) (τ : kT) (post : kT → Prop) (h : T_X2_lengthen  a1 a2 τ post) : U yX2_lengthen cX2_lengthen 4 none (d + 2) kE0 0 [some (.ref 59), some (.int a1), some (.int a2), none] [] τ (k_pv post) := by
  unfold T_X2_lengthen at h
  refine v_iconst (v := 0) dX2_lengthen_0 (by decide) ?_
  refine v_istore_n dX2_lengthen_1 rfl (by decide) rfl ?_
  refine v_ls (ls2 := [some (.ref 59), some (.int a1), some (.int a2), some (.int (0 : Int32))]) rfl ?_
  obtain ⟨m11, h⟩ := h
  refine l_X2_lengthen_2  a1 a2 (fun v12 τ13 h => ?_) m11 (0 : Int32) _ h
  exact u_sw h
def L_X2_countUp_8  (f1 : Int32) (f2 : Int32) (K : Int32 → kT → Prop) (post : Int64 → kT → Prop) : Nat → Int32 → kT → Prop
  | 0, _, _ => False
  | n + 1, x3, τ => (((9 : Int32) < x3 → K x3 τ) ∧ (¬ (9 : Int32) < x3 → (∃ j3 : Nat, x3 = nI j3 ∧ j3 < 10 ∧ (∀ τ4 : kT, τ4 = q_sl τ (q_c1 τ) j3 (((((q_i τ 60 0) >>> (x3 &&& 31)) &&& (1 : Int32))).toInt64) → (∀ v5 : Int32, v5 = x3 + (1 : Int32) → L_X2_countUp_8 f1 f2 K post n v5 τ4)))))
def L_X2_countUp_39  (f1 : Int32) (f2 : Int32) (K : Int32 → kT → Prop) (post : Int64 → kT → Prop) : Nat → Int32 → kT → Prop
  | 0, _, _ => False
  | n + 1, x3, τ => ((f1 ≤ x3 → K x3 τ) ∧ (¬ f1 ≤ x3 → (∃ j10 : Nat, x3 = nI j10 ∧ j10 < 18 ∧ (T_X2_lengthen (q_i τ 60 j10) f2 τ (fun τ12 => (∀ v13 : Int32, v13 = x3 + (1 : Int32) → L_X2_countUp_39 f1 f2 K post n v13 τ12))))))
def L_X2_countUp_66  (f1 : Int32) (f2 : Int32) (K : Int64 → Int32 → kT → Prop) (post : Int64 → kT → Prop) : Nat → Int64 → Int32 → kT → Prop
  | 0, _, _, _ => False
  | n + 1, x3, x5, τ => (((9 : Int32) < x5 → K x3 x5 τ) ∧ (¬ (9 : Int32) < x5 → (∃ j18 : Nat, x5 = nI j18 ∧ j18 < 10 ∧ (∀ v19 : Int64, v19 = (x3 + (q_l τ (q_c1 τ) j18)) → (∀ v20 : Int32, v20 = x5 + (1 : Int32) → L_X2_countUp_66 f1 f2 K post n v19 v20 τ)))))
def T_X2_countUp (a1 : Int32) (a2 : Int32) (τ : kT) (post : Int64 → kT → Prop) : Prop := ((¬ a1 = 0 → (∃ m6 : Nat, L_X2_countUp_8  a1 a2 (fun v7 τ8 => (∃ m14 : Nat, L_X2_countUp_39  a1 a2 (fun v15 τ16 => (∃ m21 : Nat, L_X2_countUp_66  a1 a2 (fun v22 v23 τ24 => post v22 τ24) post m21 (0 : Int64) (0 : Int32) τ16)) post m14 (1 : Int32) τ8)) post m6 (0 : Int32) τ)) ∧ (a1 = 0 → post (1 : Int64) τ))
set_option maxRecDepth 100000 in
set_option maxHeartbeats 4000000 in
theorem l_X2_countUp_8 {d : Nat}  (f1 : Int32) (f2 : Int32) {K : Int32 → kT → Prop} {post : Int64 → kT → Prop} (hK : ∀ (x3 : Int32) (τ : kT), K x3 τ → U yX2_countUp cX2_countUp 6 (some .long) (d + 3) kE0 37 [some (.ref 59), some (.int f1), some (.int f2), some (.int x3), none, none] [] τ (k_pl post)) : ∀ (n : Nat) (x3 : Int32) (τ : kT), L_X2_countUp_8  f1 f2 K post n x3 τ → U yX2_countUp cX2_countUp 6 (some .long) (d + 3) kE0 8 [some (.ref 59), some (.int f1), some (.int f2), some (.int x3), none, none] [] τ (k_pl post) := by
  intro n
  induction n with
  | zero => intro x3 τ h; exact h.elim
  | succ n ih =>
    intro x3 τ h
    unfold L_X2_countUp_8 at h
    refine v_iload_n dX2_countUp_8 rfl rfl ?_
    refine v_bipush (v := 9) dX2_countUp_9 (by decide) ?_
    refine v_icmp_gt (tgt := 37) dX2_countUp_11 (by decide) (fun c2 => ?_) (fun c2 => ?_)
    · have h := h.1 c2
      exact hK x3 _ h
    · have h := h.2 c2
      refine v_aload_n dX2_countUp_14 rfl rfl ?_
      refine u_getr fX2_15 dX2_countUp_15 sh_59 rfl (by decide) (rf_59_1 _) ?_
      refine v_iload_n dX2_countUp_18 rfl rfl ?_
      refine v_aload_n dX2_countUp_19 rfl rfl ?_
      refine u_getr fX2_9 dX2_countUp_20 sh_59 rfl (by decide) (rf_59_0 _) ?_
      refine v_iconst (v := 0) dX2_countUp_23 (by decide) ?_
      refine u_iald dX2_countUp_24 sh_60 (by decide) (by decide) rfl (by decide) ?_
      refine v_iload_n dX2_countUp_25 rfl rfl ?_
      refine v_ishr dX2_countUp_26 ?_
      refine v_iconst (v := 1) dX2_countUp_27 (by decide) ?_
      refine v_iand dX2_countUp_28 ?_
      refine v_i2l dX2_countUp_29 ?_
      obtain ⟨j3, e_j3, l_j3, h⟩ := h
      refine u_last id dX2_countUp_30 (k_c1_sh _) (k_c1_lt _) (by decide) e_j3 l_j3 (fun τ4 e_τ4 => ?_)
      have h := h τ4 e_τ4
      obtain ⟨v5, e_v5⟩ : ∃ z : Int32, z = x3 + (1 : Int32) := ⟨_, rfl⟩
      have h := h v5 e_v5
      refine v_iinc (v := v5) dX2_countUp_31 rfl (by rw [e_v5]; rfl) (by decide) rfl ?_
      refine v_ls (ls2 := [some (.ref 59), some (.int f1), some (.int f2), some (.int v5), none, none]) rfl ?_
      refine v_goto (tgt := 8) dX2_countUp_34 (by decide) ?_
      exact ih v5 _ h
set_option maxRecDepth 100000 in
set_option maxHeartbeats 4000000 in
theorem l_X2_countUp_39 {d : Nat}  (f1 : Int32) (f2 : Int32) {K : Int32 → kT → Prop} {post : Int64 → kT → Prop} (hK : ∀ (x3 : Int32) (τ : kT), K x3 τ → U yX2_countUp cX2_countUp 6 (some .long) (d + 3) kE0 61 [some (.ref 59), some (.int f1), some (.int f2), some (.int x3), none, none] [] τ (k_pl post)) : ∀ (n : Nat) (x3 : Int32) (τ : kT), L_X2_countUp_39  f1 f2 K post n x3 τ → U yX2_countUp cX2_countUp 6 (some .long) (d + 3) kE0 39 [some (.ref 59), some (.int f1), some (.int f2), some (.int x3), none, none] [] τ (k_pl post) := by
  intro n
  induction n with
  | zero => intro x3 τ h; exact h.elim
  | succ n ih =>
    intro x3 τ h
    unfold L_X2_countUp_39 at h
    refine v_iload_n dX2_countUp_39 rfl rfl ?_
    refine v_iload_n dX2_countUp_40 rfl rfl ?_
    refine v_icmp_ge (tgt := 61) dX2_countUp_41 (by decide) (fun c9 => ?_) (fun c9 => ?_)
    · have h := h.1 c9
      exact hK x3 _ h
    · have h := h.2 c9
      refine v_aload_n dX2_countUp_44 rfl rfl ?_
      refine v_aload_n dX2_countUp_45 rfl rfl ?_
      refine u_getr fX2_9 dX2_countUp_46 sh_59 rfl (by decide) (rf_59_0 _) ?_
      refine v_iload_n dX2_countUp_49 rfl rfl ?_
      obtain ⟨j10, e_j10, l_j10, h⟩ := h
      refine u_iald dX2_countUp_50 sh_60 (by decide) (by decide) e_j10 l_j10 ?_
      refine v_iload_n dX2_countUp_51 rfl rfl ?_
      refine u_callV [.int (q_i τ 60 j10), .int f2] mX2_lengthen iX2_lengthen lX2_60 dX2_countUp_52 sh_59 rfl rfl (by decide) ⟨rfl, rfl, id⟩ rfl rfl (Nat.le_of_ble_eq_true rfl) (Nat.le_of_ble_eq_true rfl) (v_X2_lengthen (q_i τ 60 j10) f2 _ _ h) ?_
      rintro _ τ12 ⟨rfl, h⟩
      obtain ⟨v13, e_v13⟩ : ∃ z : Int32, z = x3 + (1 : Int32) := ⟨_, rfl⟩
      have h := h v13 e_v13
      refine v_iinc (v := v13) dX2_countUp_55 rfl (by rw [e_v13]; rfl) (by decide) rfl ?_
      refine v_ls (ls2 := [some (.ref 59), some (.int f1), some (.int f2), some (.int v13), none, none]) rfl ?_
      refine v_goto (tgt := 39) dX2_countUp_58 (by decide) ?_
      exact ih v13 _ h
set_option maxRecDepth 100000 in
set_option maxHeartbeats 4000000 in
theorem l_X2_countUp_66 {d : Nat}  (f1 : Int32) (f2 : Int32) {K : Int64 → Int32 → kT → Prop} {post : Int64 → kT → Prop} (hK : ∀ (x3 : Int64) (x5 : Int32) (τ : kT), K x3 x5 τ → U yX2_countUp cX2_countUp 6 (some .long) (d + 3) kE0 89 [some (.ref 59), some (.int f1), some (.int f2), some (.long x3), none, some (.int x5)] [] τ (k_pl post)) : ∀ (n : Nat) (x3 : Int64) (x5 : Int32) (τ : kT), L_X2_countUp_66  f1 f2 K post n x3 x5 τ → U yX2_countUp cX2_countUp 6 (some .long) (d + 3) kE0 66 [some (.ref 59), some (.int f1), some (.int f2), some (.long x3), none, some (.int x5)] [] τ (k_pl post) := by
  intro n
  induction n with
  | zero => intro x3 x5 τ h; exact h.elim
  | succ n ih =>
    intro x3 x5 τ h
    unfold L_X2_countUp_66 at h
    refine v_iload dX2_countUp_66 rfl ?_
    refine v_bipush (v := 9) dX2_countUp_68 (by decide) ?_
    refine v_icmp_gt (tgt := 89) dX2_countUp_70 (by decide) (fun c17 => ?_) (fun c17 => ?_)
    · have h := h.1 c17
      exact hK x3 x5 _ h
    · have h := h.2 c17
      refine v_lload_n dX2_countUp_73 rfl rfl ?_
      refine v_aload_n dX2_countUp_74 rfl rfl ?_
      refine u_getr fX2_15 dX2_countUp_75 sh_59 rfl (by decide) (rf_59_1 _) ?_
      refine v_iload dX2_countUp_78 rfl ?_
      obtain ⟨j18, e_j18, l_j18, h⟩ := h
      refine u_lald dX2_countUp_80 (k_c1_sh _) (k_c1_lt _) (by decide) e_j18 l_j18 ?_
      refine v_ladd dX2_countUp_81 ?_
      refine v_topl (fun v19 e_v19 => ?_)
      have h := h v19 e_v19
      refine v_lstore_n dX2_countUp_82 rfl (by decide) rfl ?_
      refine v_ls (ls2 := [some (.ref 59), some (.int f1), some (.int f2), some (.long v19), none, some (.int x5)]) rfl ?_
      obtain ⟨v20, e_v20⟩ : ∃ z : Int32, z = x5 + (1 : Int32) := ⟨_, rfl⟩
      have h := h v20 e_v20
      refine v_iinc (v := v20) dX2_countUp_83 rfl (by rw [e_v20]; rfl) (by decide) rfl ?_
      refine v_ls (ls2 := [some (.ref 59), some (.int f1), some (.int f2), some (.long v19), none, some (.int v20)]) rfl ?_
      refine v_goto (tgt := 66) dX2_countUp_86 (by decide) ?_
      exact ih v19 v20 _ h
set_option maxRecDepth 100000 in
set_option maxHeartbeats 4000000 in
theorem v_X2_countUp {d : Nat}  (a1 : Int32) (a2 : Int32) (τ : kT) (post : Int64 → kT → Prop) (h : T_X2_countUp  a1 a2 τ post) : U yX2_countUp cX2_countUp 6 (some .long) (d + 3) kE0 0 [some (.ref 59), some (.int a1), some (.int a2), none, none, none] [] τ (k_pl post) := by
  unfold T_X2_countUp at h
  refine v_iload_n dX2_countUp_0 rfl rfl ?_
  refine v_if_ne (tgt := 6) dX2_countUp_1 (by decide) (fun c1 => ?_) (fun c1 => ?_)
  · have h := h.1 c1
    refine v_iconst (v := 0) dX2_countUp_6 (by decide) ?_
    refine v_istore_n dX2_countUp_7 rfl (by decide) rfl ?_
    refine v_ls (ls2 := [some (.ref 59), some (.int a1), some (.int a2), some (.int (0 : Int32)), none, none]) rfl ?_
    obtain ⟨m6, h⟩ := h
    refine l_X2_countUp_8  a1 a2 (fun v7 τ8 h => ?_) m6 (0 : Int32) _ h
    refine v_iconst (v := 1) dX2_countUp_37 (by decide) ?_
    refine v_istore_n dX2_countUp_38 rfl (by decide) rfl ?_
    refine v_ls (ls2 := [some (.ref 59), some (.int a1), some (.int a2), some (.int (1 : Int32)), none, none]) rfl ?_
    obtain ⟨m14, h⟩ := h
    refine l_X2_countUp_39  a1 a2 (fun v15 τ16 h => ?_) m14 (1 : Int32) _ h
    refine v_lconst (v := 0) dX2_countUp_61 (by decide) ?_
    refine v_lstore_n dX2_countUp_62 rfl (by decide) rfl ?_
    refine v_ls (ls2 := [some (.ref 59), some (.int a1), some (.int a2), some (.long (0 : Int64)), none, none]) rfl ?_
    refine v_iconst (v := 0) dX2_countUp_63 (by decide) ?_
    refine v_istore dX2_countUp_64 (by decide) rfl ?_
    refine v_ls (ls2 := [some (.ref 59), some (.int a1), some (.int a2), some (.long (0 : Int64)), none, some (.int (0 : Int32))]) rfl ?_
    obtain ⟨m21, h⟩ := h
    refine l_X2_countUp_66  a1 a2 (fun v22 v23 τ24 h => ?_) m21 (0 : Int64) (0 : Int32) _ h
    refine v_lload_n dX2_countUp_89 rfl rfl ?_
    exact u_lret dX2_countUp_90 ⟨rfl, id⟩ h
  · have h := h.2 c1
    refine v_lconst (v := 1) dX2_countUp_4 (by decide) ?_
    exact u_lret dX2_countUp_5 ⟨rfl, id⟩ h
def L_X2_rowsThatOpen_55  (f2 : Int32) (f3 : Int32) (f4 : Int32) (f5 : Int32) (f6 : Int32) (K : Int32 → kT → Prop) (post : Int64 → kT → Prop) : Nat → Int32 → kT → Prop
  | 0, _, _ => False
  | n + 1, x7, τ => ((f3 ≤ x7 → K x7 τ) ∧ (¬ f3 ≤ x7 → (∃ j11 : Nat, x7 = nI j11 ∧ j11 < 18 ∧ (∀ τ12 : kT, τ12 = q_si τ 60 j11 (1023 : Int32) → (∀ v13 : Int32, v13 = x7 + (1 : Int32) → L_X2_rowsThatOpen_55 f2 f3 f4 f5 f6 K post n v13 τ12)))))
def T_X2_rowsThatOpen (a1 : Int32) (a2 : Int32) (a3 : Int32) (τ : kT) (post : Int64 → kT → Prop) : Prop := (T_X4_isDouble a1 τ (fun r1 τ2 => ((r1 = 0 → (T_X2_isMissing a1 τ2 (fun r4 τ5 => ((¬ r4 = 0 → post (-11 : Int64) τ5) ∧ (r4 = 0 → (T_X2_isMissing a1 τ5 (fun r7 τ8 => ((r7 = 0 → (∃ m14 : Nat, L_X2_rowsThatOpen_55  a1 a2 a3 a1 a1 (fun v15 τ16 => (T_X2_narrow a1 a2 τ16 (fun r17 τ18 => ((r17 = 0 → post (0 : Int64) τ18) ∧ (¬ r17 = 0 → (T_X2_narrow a1 a2 τ18 (fun r20 τ21 => ((¬ r20 = 0 → (T_X2_countUp a2 a3 τ21 (fun r23 τ24 => post r23 τ24))) ∧ (r20 = 0 → post (0 : Int64) τ21))))))))) post m14 (0 : Int32) τ8)) ∧ (¬ r7 = 0 → post (-11 : Int64) τ8))))))))) ∧ (¬ r1 = 0 → (∃ j25 : Nat, a1 = nI j25 ∧ j25 < 100 ∧ (∀ v26 : Int32, v26 = (q_i τ2 6 j25) → (∃ j27 : Nat, a1 = nI j27 ∧ j27 < 100 ∧ (∀ v28 : Int32, v28 = (q_i τ2 7 j27) → (T_X2_isMissing v26 τ2 (fun r29 τ30 => ((¬ r29 = 0 → post (-11 : Int64) τ30) ∧ (r29 = 0 → (T_X2_isMissing v28 τ30 (fun r32 τ33 => ((r32 = 0 → (∃ m35 : Nat, L_X2_rowsThatOpen_55  a1 a2 a3 v26 v28 (fun v36 τ37 => (T_X2_narrow v26 a2 τ37 (fun r38 τ39 => ((r38 = 0 → post (0 : Int64) τ39) ∧ (¬ r38 = 0 → (T_X2_narrow v28 a2 τ39 (fun r41 τ42 => ((¬ r41 = 0 → (T_X2_countUp a2 a3 τ42 (fun r44 τ45 => post r44 τ45))) ∧ (r41 = 0 → post (0 : Int64) τ42))))))))) post m35 (0 : Int32) τ33)) ∧ (¬ r32 = 0 → post (-11 : Int64) τ33))))))))))))))))
set_option maxRecDepth 100000 in
set_option maxHeartbeats 4000000 in
theorem l_X2_rowsThatOpen_55 {d : Nat}  (f2 : Int32) (f3 : Int32) (f4 : Int32) (f5 : Int32) (f6 : Int32) {K : Int32 → kT → Prop} {post : Int64 → kT → Prop} (hK : ∀ (x7 : Int32) (τ : kT), K x7 τ → U yX2_rowsThatOpen cX2_rowsThatOpen 8 (some .long) (d + 4) kE0 77 [some (.ref 59), some (.ref 2), some (.int f2), some (.int f3), some (.int f4), some (.int f5), some (.int f6), some (.int x7)] [] τ (k_pl post)) : ∀ (n : Nat) (x7 : Int32) (τ : kT), L_X2_rowsThatOpen_55  f2 f3 f4 f5 f6 K post n x7 τ → U yX2_rowsThatOpen cX2_rowsThatOpen 8 (some .long) (d + 4) kE0 55 [some (.ref 59), some (.ref 2), some (.int f2), some (.int f3), some (.int f4), some (.int f5), some (.int f6), some (.int x7)] [] τ (k_pl post) := by
  intro n
  induction n with
  | zero => intro x7 τ h; exact h.elim
  | succ n ih =>
    intro x7 τ h
    unfold L_X2_rowsThatOpen_55 at h
    refine v_iload dX2_rowsThatOpen_55 rfl ?_
    refine v_iload_n dX2_rowsThatOpen_57 rfl rfl ?_
    refine v_icmp_ge (tgt := 77) dX2_rowsThatOpen_58 (by decide) (fun c10 => ?_) (fun c10 => ?_)
    · have h := h.1 c10
      exact hK x7 _ h
    · have h := h.2 c10
      refine v_aload_n dX2_rowsThatOpen_61 rfl rfl ?_
      refine u_getr fX2_9 dX2_rowsThatOpen_62 sh_59 rfl (by decide) (rf_59_0 _) ?_
      refine v_iload dX2_rowsThatOpen_65 rfl ?_
      refine v_sipush (v := 1023) dX2_rowsThatOpen_67 (by decide) ?_
      obtain ⟨j11, e_j11, l_j11, h⟩ := h
      refine u_iast dX2_rowsThatOpen_70 sh_60 (by decide) (by decide) e_j11 l_j11 (fun τ12 e_τ12 => ?_)
      have h := h τ12 e_τ12
      obtain ⟨v13, e_v13⟩ : ∃ z : Int32, z = x7 + (1 : Int32) := ⟨_, rfl⟩
      have h := h v13 e_v13
      refine v_iinc (v := v13) dX2_rowsThatOpen_71 rfl (by rw [e_v13]; rfl) (by decide) rfl ?_
      refine v_ls (ls2 := [some (.ref 59), some (.ref 2), some (.int f2), some (.int f3), some (.int f4), some (.int f5), some (.int f6), some (.int v13)]) rfl ?_
      refine v_goto (tgt := 55) dX2_rowsThatOpen_74 (by decide) ?_
      exact ih v13 _ h
set_option maxRecDepth 100000 in
set_option maxHeartbeats 4000000 in
theorem v_X2_rowsThatOpen {d : Nat}  (a1 : Int32) (a2 : Int32) (a3 : Int32) (τ : kT) (post : Int64 → kT → Prop) (h : T_X2_rowsThatOpen  a1 a2 a3 τ post) : U yX2_rowsThatOpen cX2_rowsThatOpen 8 (some .long) (d + 4) kE0 0 [some (.ref 59), some (.ref 2), some (.int a1), some (.int a2), some (.int a3), none, none, none] [] τ (k_pl post) := by
  unfold T_X2_rowsThatOpen at h
  refine v_iload_n dX2_rowsThatOpen_0 rfl rfl ?_
  refine v_istore dX2_rowsThatOpen_1 (by decide) rfl ?_
  refine v_ls (ls2 := [some (.ref 59), some (.ref 2), some (.int a1), some (.int a2), some (.int a3), some (.int a1), none, none]) rfl ?_
  refine v_iload_n dX2_rowsThatOpen_3 rfl rfl ?_
  refine v_istore dX2_rowsThatOpen_4 (by decide) rfl ?_
  refine v_ls (ls2 := [some (.ref 59), some (.ref 2), some (.int a1), some (.int a2), some (.int a3), some (.int a1), some (.int a1), none]) rfl ?_
  refine v_aload_n dX2_rowsThatOpen_6 rfl rfl ?_
  refine v_iload_n dX2_rowsThatOpen_7 rfl rfl ?_
  refine u_callV [.int a1] mX4_isDouble iX4_isDouble lX2_22 dX2_rowsThatOpen_8 sh_2 rfl rfl (by decide) ⟨rfl, rfl, id⟩ rfl rfl (Nat.le_of_ble_eq_true rfl) (Nat.le_of_ble_eq_true rfl) (v_X4_isDouble a1 _ _ h) ?_
  rintro _ τ2 ⟨r1, rfl, h⟩
  refine v_if_eq (tgt := 30) dX2_rowsThatOpen_11 (by decide) (fun c3 => ?_) (fun c3 => ?_)
  · have h := h.1 c3
    refine v_aload_n dX2_rowsThatOpen_30 rfl rfl ?_
    refine v_iload dX2_rowsThatOpen_31 rfl ?_
    refine u_callS [.ref 2, .int a1] mX2_isMissing sX2_isMissing lX2_34 dX2_rowsThatOpen_33 ⟨rfl, rfl, id⟩ rfl rfl (Nat.le_of_ble_eq_true rfl) (Nat.le_of_ble_eq_true rfl) (v_X2_isMissing a1 _ _ h) ?_
    rintro _ τ5 ⟨r4, rfl, h⟩
    refine v_if_ne (tgt := 48) dX2_rowsThatOpen_36 (by decide) (fun c6 => ?_) (fun c6 => ?_)
    · have h := h.1 c6
      refine v_ldc2 kX2_38 dX2_rowsThatOpen_48 ?_
      exact u_lret dX2_rowsThatOpen_51 ⟨rfl, id⟩ h
    · have h := h.2 c6
      refine v_aload_n dX2_rowsThatOpen_39 rfl rfl ?_
      refine v_iload dX2_rowsThatOpen_40 rfl ?_
      refine u_callS [.ref 2, .int a1] mX2_isMissing sX2_isMissing lX2_34 dX2_rowsThatOpen_42 ⟨rfl, rfl, id⟩ rfl rfl (Nat.le_of_ble_eq_true rfl) (Nat.le_of_ble_eq_true rfl) (v_X2_isMissing a1 _ _ h) ?_
      rintro _ τ8 ⟨r7, rfl, h⟩
      refine v_if_eq (tgt := 52) dX2_rowsThatOpen_45 (by decide) (fun c9 => ?_) (fun c9 => ?_)
      · have h := h.1 c9
        refine v_iconst (v := 0) dX2_rowsThatOpen_52 (by decide) ?_
        refine v_istore dX2_rowsThatOpen_53 (by decide) rfl ?_
        refine v_ls (ls2 := [some (.ref 59), some (.ref 2), some (.int a1), some (.int a2), some (.int a3), some (.int a1), some (.int a1), some (.int (0 : Int32))]) rfl ?_
        obtain ⟨m14, h⟩ := h
        refine l_X2_rowsThatOpen_55  a1 a2 a3 a1 a1 (fun v15 τ16 h => ?_) m14 (0 : Int32) _ h
        refine v_aload_n dX2_rowsThatOpen_77 rfl rfl ?_
        refine v_aload_n dX2_rowsThatOpen_78 rfl rfl ?_
        refine v_iload dX2_rowsThatOpen_79 rfl ?_
        refine v_iload_n dX2_rowsThatOpen_81 rfl rfl ?_
        refine u_callV [.ref 2, .int a1, .int a2] mX2_narrow iX2_narrow lX2_40 dX2_rowsThatOpen_82 sh_59 rfl rfl (by decide) ⟨rfl, rfl, id⟩ rfl rfl (Nat.le_of_ble_eq_true rfl) (Nat.le_of_ble_eq_true rfl) (v_X2_narrow a1 a2 _ _ h) ?_
        rintro _ τ18 ⟨r17, rfl, h⟩
        refine v_if_eq (tgt := 99) dX2_rowsThatOpen_85 (by decide) (fun c19 => ?_) (fun c19 => ?_)
        · have h := h.1 c19
          refine v_lconst (v := 0) dX2_rowsThatOpen_99 (by decide) ?_
          exact u_lret dX2_rowsThatOpen_100 ⟨rfl, id⟩ h
        · have h := h.2 c19
          refine v_aload_n dX2_rowsThatOpen_88 rfl rfl ?_
          refine v_aload_n dX2_rowsThatOpen_89 rfl rfl ?_
          refine v_iload dX2_rowsThatOpen_90 rfl ?_
          refine v_iload_n dX2_rowsThatOpen_92 rfl rfl ?_
          refine u_callV [.ref 2, .int a1, .int a2] mX2_narrow iX2_narrow lX2_40 dX2_rowsThatOpen_93 sh_59 rfl rfl (by decide) ⟨rfl, rfl, id⟩ rfl rfl (Nat.le_of_ble_eq_true rfl) (Nat.le_of_ble_eq_true rfl) (v_X2_narrow a1 a2 _ _ h) ?_
          rintro _ τ21 ⟨r20, rfl, h⟩
          refine v_if_ne (tgt := 101) dX2_rowsThatOpen_96 (by decide) (fun c22 => ?_) (fun c22 => ?_)
          · have h := h.1 c22
            refine v_aload_n dX2_rowsThatOpen_101 rfl rfl ?_
            refine v_iload_n dX2_rowsThatOpen_102 rfl rfl ?_
            refine v_iload dX2_rowsThatOpen_103 rfl ?_
            refine u_callV [.int a2, .int a3] mX2_countUp iX2_countUp lX2_44 dX2_rowsThatOpen_105 sh_59 rfl rfl (by decide) ⟨rfl, rfl, id⟩ rfl rfl (Nat.le_of_ble_eq_true rfl) (Nat.le_of_ble_eq_true rfl) (v_X2_countUp a2 a3 _ _ h) ?_
            rintro _ τ24 ⟨r23, rfl, h⟩
            exact u_lret dX2_rowsThatOpen_108 ⟨rfl, id⟩ h
          · have h := h.2 c22
            refine v_lconst (v := 0) dX2_rowsThatOpen_99 (by decide) ?_
            exact u_lret dX2_rowsThatOpen_100 ⟨rfl, id⟩ h
      · have h := h.2 c9
        refine v_ldc2 kX2_38 dX2_rowsThatOpen_48 ?_
        exact u_lret dX2_rowsThatOpen_51 ⟨rfl, id⟩ h
  · have h := h.2 c3
    refine v_aload_n dX2_rowsThatOpen_14 rfl rfl ?_
    refine u_getr fX2_28 dX2_rowsThatOpen_15 sh_2 rfl (by decide) (rf_2_3 _) ?_
    refine v_iload_n dX2_rowsThatOpen_18 rfl rfl ?_
    obtain ⟨j25, e_j25, l_j25, h⟩ := h
    refine u_iald dX2_rowsThatOpen_19 sh_6 (by decide) (by decide) e_j25 l_j25 ?_
    refine v_topi (fun v26 e_v26 => ?_)
    have h := h v26 e_v26
    refine v_istore dX2_rowsThatOpen_20 (by decide) rfl ?_
    refine v_ls (ls2 := [some (.ref 59), some (.ref 2), some (.int a1), some (.int a2), some (.int a3), some (.int v26), some (.int a1), none]) rfl ?_
    refine v_aload_n dX2_rowsThatOpen_22 rfl rfl ?_
    refine u_getr fX2_31 dX2_rowsThatOpen_23 sh_2 rfl (by decide) (rf_2_4 _) ?_
    refine v_iload_n dX2_rowsThatOpen_26 rfl rfl ?_
    obtain ⟨j27, e_j27, l_j27, h⟩ := h
    refine u_iald dX2_rowsThatOpen_27 sh_7 (by decide) (by decide) e_j27 l_j27 ?_
    refine v_topi (fun v28 e_v28 => ?_)
    have h := h v28 e_v28
    refine v_istore dX2_rowsThatOpen_28 (by decide) rfl ?_
    refine v_ls (ls2 := [some (.ref 59), some (.ref 2), some (.int a1), some (.int a2), some (.int a3), some (.int v26), some (.int v28), none]) rfl ?_
    refine v_aload_n dX2_rowsThatOpen_30 rfl rfl ?_
    refine v_iload dX2_rowsThatOpen_31 rfl ?_
    refine u_callS [.ref 2, .int v26] mX2_isMissing sX2_isMissing lX2_34 dX2_rowsThatOpen_33 ⟨rfl, rfl, id⟩ rfl rfl (Nat.le_of_ble_eq_true rfl) (Nat.le_of_ble_eq_true rfl) (v_X2_isMissing v26 _ _ h) ?_
    rintro _ τ30 ⟨r29, rfl, h⟩
    refine v_if_ne (tgt := 48) dX2_rowsThatOpen_36 (by decide) (fun c31 => ?_) (fun c31 => ?_)
    · have h := h.1 c31
      refine v_ldc2 kX2_38 dX2_rowsThatOpen_48 ?_
      exact u_lret dX2_rowsThatOpen_51 ⟨rfl, id⟩ h
    · have h := h.2 c31
      refine v_aload_n dX2_rowsThatOpen_39 rfl rfl ?_
      refine v_iload dX2_rowsThatOpen_40 rfl ?_
      refine u_callS [.ref 2, .int v28] mX2_isMissing sX2_isMissing lX2_34 dX2_rowsThatOpen_42 ⟨rfl, rfl, id⟩ rfl rfl (Nat.le_of_ble_eq_true rfl) (Nat.le_of_ble_eq_true rfl) (v_X2_isMissing v28 _ _ h) ?_
      rintro _ τ33 ⟨r32, rfl, h⟩
      refine v_if_eq (tgt := 52) dX2_rowsThatOpen_45 (by decide) (fun c34 => ?_) (fun c34 => ?_)
      · have h := h.1 c34
        refine v_iconst (v := 0) dX2_rowsThatOpen_52 (by decide) ?_
        refine v_istore dX2_rowsThatOpen_53 (by decide) rfl ?_
        refine v_ls (ls2 := [some (.ref 59), some (.ref 2), some (.int a1), some (.int a2), some (.int a3), some (.int v26), some (.int v28), some (.int (0 : Int32))]) rfl ?_
        obtain ⟨m35, h⟩ := h
        refine l_X2_rowsThatOpen_55  a1 a2 a3 v26 v28 (fun v36 τ37 h => ?_) m35 (0 : Int32) _ h
        refine v_aload_n dX2_rowsThatOpen_77 rfl rfl ?_
        refine v_aload_n dX2_rowsThatOpen_78 rfl rfl ?_
        refine v_iload dX2_rowsThatOpen_79 rfl ?_
        refine v_iload_n dX2_rowsThatOpen_81 rfl rfl ?_
        refine u_callV [.ref 2, .int v26, .int a2] mX2_narrow iX2_narrow lX2_40 dX2_rowsThatOpen_82 sh_59 rfl rfl (by decide) ⟨rfl, rfl, id⟩ rfl rfl (Nat.le_of_ble_eq_true rfl) (Nat.le_of_ble_eq_true rfl) (v_X2_narrow v26 a2 _ _ h) ?_
        rintro _ τ39 ⟨r38, rfl, h⟩
        refine v_if_eq (tgt := 99) dX2_rowsThatOpen_85 (by decide) (fun c40 => ?_) (fun c40 => ?_)
        · have h := h.1 c40
          refine v_lconst (v := 0) dX2_rowsThatOpen_99 (by decide) ?_
          exact u_lret dX2_rowsThatOpen_100 ⟨rfl, id⟩ h
        · have h := h.2 c40
          refine v_aload_n dX2_rowsThatOpen_88 rfl rfl ?_
          refine v_aload_n dX2_rowsThatOpen_89 rfl rfl ?_
          refine v_iload dX2_rowsThatOpen_90 rfl ?_
          refine v_iload_n dX2_rowsThatOpen_92 rfl rfl ?_
          refine u_callV [.ref 2, .int v28, .int a2] mX2_narrow iX2_narrow lX2_40 dX2_rowsThatOpen_93 sh_59 rfl rfl (by decide) ⟨rfl, rfl, id⟩ rfl rfl (Nat.le_of_ble_eq_true rfl) (Nat.le_of_ble_eq_true rfl) (v_X2_narrow v28 a2 _ _ h) ?_
          rintro _ τ42 ⟨r41, rfl, h⟩
          refine v_if_ne (tgt := 101) dX2_rowsThatOpen_96 (by decide) (fun c43 => ?_) (fun c43 => ?_)
          · have h := h.1 c43
            refine v_aload_n dX2_rowsThatOpen_101 rfl rfl ?_
            refine v_iload_n dX2_rowsThatOpen_102 rfl rfl ?_
            refine v_iload dX2_rowsThatOpen_103 rfl ?_
            refine u_callV [.int a2, .int a3] mX2_countUp iX2_countUp lX2_44 dX2_rowsThatOpen_105 sh_59 rfl rfl (by decide) ⟨rfl, rfl, id⟩ rfl rfl (Nat.le_of_ble_eq_true rfl) (Nat.le_of_ble_eq_true rfl) (v_X2_countUp a2 a3 _ _ h) ?_
            rintro _ τ45 ⟨r44, rfl, h⟩
            exact u_lret dX2_rowsThatOpen_108 ⟨rfl, id⟩ h
          · have h := h.2 c43
            refine v_lconst (v := 0) dX2_rowsThatOpen_99 (by decide) ?_
            exact u_lret dX2_rowsThatOpen_100 ⟨rfl, id⟩ h
      · have h := h.2 c34
        refine v_ldc2 kX2_38 dX2_rowsThatOpen_48 ?_
        exact u_lret dX2_rowsThatOpen_51 ⟨rfl, id⟩ h
def T_X10_count (a1 : Int32) (a2 : Int32) (a3 : Int32) (τ : kT) (post : Int64 → kT → Prop) : Prop := (T_X6_hasDoor a1 τ (fun r1 τ2 => ((r1 = 0 → post (-2 : Int64) τ2) ∧ (¬ r1 = 0 → ((a2 < 0 → post (-2 : Int64) τ2) ∧ (¬ a2 < 0 → (((18 : Int32) < a2 → post (-2 : Int64) τ2) ∧ (¬ (18 : Int32) < a2 → ((a3 < 0 → post (-2 : Int64) τ2) ∧ (¬ a3 < 0 → ((a3 ≤ (9 : Int32) → (∃ j8 : Nat, a1 = nI j8 ∧ j8 < 40 ∧ (T_X2_rowsThatOpen (q_i τ2 19 j8) a2 a3 τ2 (fun r9 τ10 => ((¬ (lg_cmp r9 (-11 : Int64)) = 0 → (T_X10_settle (0 : Int32) τ10 (fun r12 τ13 => post r9 τ13))) ∧ ((lg_cmp r9 (-11 : Int64)) = 0 → (T_X10_settle (-11 : Int32) τ10 (fun r14 τ15 => post r9 τ15)))))))) ∧ (¬ a3 ≤ (9 : Int32) → post (-2 : Int64) τ2))))))))))))
set_option maxRecDepth 100000 in
set_option maxHeartbeats 4000000 in
theorem v_X10_count {d : Nat}  (a1 : Int32) (a2 : Int32) (a3 : Int32) (τ : kT) (post : Int64 → kT → Prop) (h : T_X10_count  a1 a2 a3 τ post) : U yX10_count cX10_count 6 (some .long) (d + 5) kE0 0 [some (.ref 0), some (.int a1), some (.int a2), some (.int a3), none, none] [] τ (k_pl post) := by
  unfold T_X10_count at h
  refine v_aload_n dX10_count_0 rfl rfl ?_
  refine u_getr fX10_10 dX10_count_1 sh_0 rfl (by decide) (rf_0_0 _) ?_
  refine v_iload_n dX10_count_4 rfl rfl ?_
  refine u_callV [.int a1] mX6_hasDoor iX6_hasDoor lX10_222 dX10_count_5 sh_1 rfl rfl (by decide) ⟨rfl, rfl, id⟩ rfl rfl (Nat.le_of_ble_eq_true rfl) (Nat.le_of_ble_eq_true rfl) (v_X6_hasDoor a1 _ _ h) ?_
  rintro _ τ2 ⟨r1, rfl, h⟩
  refine v_if_eq (tgt := 31) dX10_count_8 (by decide) (fun c3 => ?_) (fun c3 => ?_)
  · have h := h.1 c3
    refine v_ldc2 kX10_324 dX10_count_31 ?_
    exact u_lret dX10_count_34 ⟨rfl, id⟩ h
  · have h := h.2 c3
    refine v_iload_n dX10_count_11 rfl rfl ?_
    refine v_if_lt (tgt := 31) dX10_count_12 (by decide) (fun c4 => ?_) (fun c4 => ?_)
    · have h := h.1 c4
      refine v_ldc2 kX10_324 dX10_count_31 ?_
      exact u_lret dX10_count_34 ⟨rfl, id⟩ h
    · have h := h.2 c4
      refine v_iload_n dX10_count_15 rfl rfl ?_
      refine v_bipush (v := 18) dX10_count_16 (by decide) ?_
      refine v_icmp_gt (tgt := 31) dX10_count_18 (by decide) (fun c5 => ?_) (fun c5 => ?_)
      · have h := h.1 c5
        refine v_ldc2 kX10_324 dX10_count_31 ?_
        exact u_lret dX10_count_34 ⟨rfl, id⟩ h
      · have h := h.2 c5
        refine v_iload_n dX10_count_21 rfl rfl ?_
        refine v_if_lt (tgt := 31) dX10_count_22 (by decide) (fun c6 => ?_) (fun c6 => ?_)
        · have h := h.1 c6
          refine v_ldc2 kX10_324 dX10_count_31 ?_
          exact u_lret dX10_count_34 ⟨rfl, id⟩ h
        · have h := h.2 c6
          refine v_iload_n dX10_count_25 rfl rfl ?_
          refine v_bipush (v := 9) dX10_count_26 (by decide) ?_
          refine v_icmp_le (tgt := 35) dX10_count_28 (by decide) (fun c7 => ?_) (fun c7 => ?_)
          · have h := h.1 c7
            refine v_aload_n dX10_count_35 rfl rfl ?_
            refine u_getr fX10_53 dX10_count_36 sh_0 rfl (by decide) (rf_0_9 _) ?_
            refine v_aload_n dX10_count_39 rfl rfl ?_
            refine u_getr fX10_10 dX10_count_40 sh_0 rfl (by decide) (rf_0_0 _) ?_
            refine u_getr fX10_72 dX10_count_43 sh_1 rfl (by decide) (rf_1_0 _) ?_
            refine v_aload_n dX10_count_46 rfl rfl ?_
            refine u_getr fX10_10 dX10_count_47 sh_0 rfl (by decide) (rf_0_0 _) ?_
            refine u_getr fX10_225 dX10_count_50 sh_1 rfl (by decide) (rf_1_3 _) ?_
            refine v_iload_n dX10_count_53 rfl rfl ?_
            obtain ⟨j8, e_j8, l_j8, h⟩ := h
            refine u_iald dX10_count_54 sh_19 (by decide) (by decide) e_j8 l_j8 ?_
            refine v_iload_n dX10_count_55 rfl rfl ?_
            refine v_iload_n dX10_count_56 rfl rfl ?_
            refine u_callV [.ref 2, .int (q_i τ2 19 j8), .int a2, .int a3] mX2_rowsThatOpen iX2_rowsThatOpen lX10_326 dX10_count_57 sh_59 rfl rfl (by decide) ⟨rfl, rfl, id⟩ rfl rfl (Nat.le_of_ble_eq_true rfl) (Nat.le_of_ble_eq_true rfl) (v_X2_rowsThatOpen (q_i τ2 19 j8) a2 a3 _ _ h) ?_
            rintro _ τ10 ⟨r9, rfl, h⟩
            refine v_lstore dX10_count_60 (by decide) rfl ?_
            refine v_ls (ls2 := [some (.ref 0), some (.int a1), some (.int a2), some (.int a3), some (.long r9), none]) rfl ?_
            refine v_aload_n dX10_count_62 rfl rfl ?_
            refine v_lload dX10_count_63 rfl ?_
            refine v_ldc2 kX10_330 dX10_count_65 ?_
            refine v_lcmp dX10_count_68 ?_
            refine v_if_ne (tgt := 77) dX10_count_69 (by decide) (fun c11 => ?_) (fun c11 => ?_)
            · have h := h.1 c11
              refine v_iconst (v := 0) dX10_count_77 (by decide) ?_
              refine u_callV [.int (0 : Int32)] mX10_settle iX10_settle lX10_68 dX10_count_78 sh_0 rfl rfl (by decide) ⟨rfl, rfl, id⟩ rfl rfl (Nat.le_of_ble_eq_true rfl) (Nat.le_of_ble_eq_true rfl) (v_X10_settle (0 : Int32) _ _ h) ?_
              rintro _ τ13 ⟨r12, rfl, h⟩
              refine v_pop dX10_count_81 rfl ?_
              refine v_lload dX10_count_82 rfl ?_
              exact u_lret dX10_count_84 ⟨rfl, id⟩ h
            · have h := h.2 c11
              refine v_bipush (v := -11) dX10_count_72 (by decide) ?_
              refine v_goto (tgt := 78) dX10_count_74 (by decide) ?_
              refine u_callV [.int (-11 : Int32)] mX10_settle iX10_settle lX10_68 dX10_count_78 sh_0 rfl rfl (by decide) ⟨rfl, rfl, id⟩ rfl rfl (Nat.le_of_ble_eq_true rfl) (Nat.le_of_ble_eq_true rfl) (v_X10_settle (-11 : Int32) _ _ h) ?_
              rintro _ τ15 ⟨r14, rfl, h⟩
              refine v_pop dX10_count_81 rfl ?_
              refine v_lload dX10_count_82 rfl ?_
              exact u_lret dX10_count_84 ⟨rfl, id⟩ h
          · have h := h.2 c7
            refine v_ldc2 kX10_324 dX10_count_31 ?_
            exact u_lret dX10_count_34 ⟨rfl, id⟩ h
def T_X10_areDoors (a1 : Int32) (τ : kT) (post : Int32 → kT → Prop) : Prop := ((0 ≤ a1 → (((31 : Int32) ≤ (q_i τ 1 4) → post (1 : Int32) τ) ∧ (¬ (31 : Int32) ≤ (q_i τ 1 4) → ((¬ (a1 >>> ((q_i τ 1 4) &&& 31)) = 0 → post (0 : Int32) τ) ∧ ((a1 >>> ((q_i τ 1 4) &&& 31)) = 0 → post (1 : Int32) τ))))) ∧ (¬ 0 ≤ a1 → post (0 : Int32) τ))
set_option maxRecDepth 100000 in
set_option maxHeartbeats 4000000 in
theorem v_X10_areDoors {d : Nat}  (a1 : Int32) (τ : kT) (post : Int32 → kT → Prop) (h : T_X10_areDoors  a1 τ post) : U yX10_areDoors cX10_areDoors 2 (some .boolean) (d + 0) kE0 0 [some (.ref 0), some (.int a1)] [] τ (k_pi post) := by
  unfold T_X10_areDoors at h
  refine v_iload_n dX10_areDoors_0 rfl rfl ?_
  refine v_if_ge (tgt := 6) dX10_areDoors_1 (by decide) (fun c1 => ?_) (fun c1 => ?_)
  · have h := h.1 c1
    refine v_aload_n dX10_areDoors_6 rfl rfl ?_
    refine u_getr fX10_10 dX10_areDoors_7 sh_0 rfl (by decide) (rf_0_0 _) ?_
    refine u_geti fX10_265 dX10_areDoors_10 sh_1 rfl (by decide) ?_
    refine v_bipush (v := 31) dX10_areDoors_13 (by decide) ?_
    refine v_icmp_ge (tgt := 30) dX10_areDoors_15 (by decide) (fun c2 => ?_) (fun c2 => ?_)
    · have h := h.1 c2
      refine v_iconst (v := 1) dX10_areDoors_30 (by decide) ?_
      refine v_goto (tgt := 35) dX10_areDoors_31 (by decide) ?_
      exact u_zret dX10_areDoors_35 rfl ⟨rfl, id⟩ h
    · have h := h.2 c2
      refine v_iload_n dX10_areDoors_18 rfl rfl ?_
      refine v_aload_n dX10_areDoors_19 rfl rfl ?_
      refine u_getr fX10_10 dX10_areDoors_20 sh_0 rfl (by decide) (rf_0_0 _) ?_
      refine u_geti fX10_265 dX10_areDoors_23 sh_1 rfl (by decide) ?_
      refine v_ishr dX10_areDoors_26 ?_
      refine v_if_ne (tgt := 34) dX10_areDoors_27 (by decide) (fun c3 => ?_) (fun c3 => ?_)
      · have h := h.1 c3
        refine v_iconst (v := 0) dX10_areDoors_34 (by decide) ?_
        exact u_zret dX10_areDoors_35 rfl ⟨rfl, id⟩ h
      · have h := h.2 c3
        refine v_iconst (v := 1) dX10_areDoors_30 (by decide) ?_
        refine v_goto (tgt := 35) dX10_areDoors_31 (by decide) ?_
        exact u_zret dX10_areDoors_35 rfl ⟨rfl, id⟩ h
  · have h := h.2 c1
    refine v_iconst (v := 0) dX10_areDoors_4 (by decide) ?_
    exact u_zret dX10_areDoors_5 rfl ⟨rfl, id⟩ h
def T_X1_begin  (τ : kT) (post : kT → Prop) : Prop := (∀ τ1 : kT, τ1 = q_si τ 63 2 (0 : Int32) → post τ1)
set_option maxRecDepth 100000 in
set_option maxHeartbeats 4000000 in
theorem v_X1_begin {d : Nat}   (τ : kT) (post : kT → Prop) (h : T_X1_begin   τ post) : U yX1_begin cX1_begin 1 none (d + 0) kE0 0 [some (.ref 63)] [] τ (k_pv post) := by
  unfold T_X1_begin at h
  refine v_aload_n dX1_begin_0 rfl rfl ?_
  refine v_iconst (v := 0) dX1_begin_1 (by decide) ?_
  refine u_puti pX1_18 ⟨_, rfl⟩ dX1_begin_2 sh_63 rfl (by decide) (by decide) (fun τ1 e_τ1 => ?_)
  have h := h τ1 e_τ1
  exact u_vret dX1_begin_5 ⟨rfl, id⟩ h
def T_X1_addKey (a1 : Int32) (τ : kT) (post : kT → Prop) : Prop := (((14 : Int32) ≤ (q_i τ 63 2) → post τ) ∧ (¬ (14 : Int32) ≤ (q_i τ 63 2) → (∃ j2 : Nat, (q_i τ 63 2) = nI j2 ∧ j2 < 14 ∧ (∀ τ3 : kT, τ3 = q_si τ 64 j2 a1 → (∃ j4 : Nat, (q_i τ3 63 2) = nI j4 ∧ j4 < 15 ∧ (∃ j5 : Nat, ((q_i τ3 63 2) + (1 : Int32)) = nI j5 ∧ j5 < 15 ∧ (∀ τ6 : kT, τ6 = q_si τ3 65 j5 ((q_i τ3 65 j4) ||| a1) → (∀ τ7 : kT, τ7 = q_si τ6 63 2 ((q_i τ6 63 2) + (1 : Int32)) → post τ7))))))))
set_option maxRecDepth 100000 in
set_option maxHeartbeats 4000000 in
theorem v_X1_addKey {d : Nat}  (a1 : Int32) (τ : kT) (post : kT → Prop) (h : T_X1_addKey  a1 τ post) : U yX1_addKey cX1_addKey 2 none (d + 0) kE0 0 [some (.ref 63), some (.int a1)] [] τ (k_pv post) := by
  unfold T_X1_addKey at h
  refine v_aload_n dX1_addKey_0 rfl rfl ?_
  refine u_geti fX1_18 dX1_addKey_1 sh_63 rfl (by decide) ?_
  refine v_bipush (v := 14) dX1_addKey_4 (by decide) ?_
  refine v_icmp_ge (tgt := 51) dX1_addKey_6 (by decide) (fun c1 => ?_) (fun c1 => ?_)
  · have h := h.1 c1
    exact u_vret dX1_addKey_51 ⟨rfl, id⟩ h
  · have h := h.2 c1
    refine v_aload_n dX1_addKey_9 rfl rfl ?_
    refine u_getr fX1_9 dX1_addKey_10 sh_63 rfl (by decide) (rf_63_0 _) ?_
    refine v_aload_n dX1_addKey_13 rfl rfl ?_
    refine u_geti fX1_18 dX1_addKey_14 sh_63 rfl (by decide) ?_
    refine v_iload_n dX1_addKey_17 rfl rfl ?_
    obtain ⟨j2, e_j2, l_j2, h⟩ := h
    refine u_iast dX1_addKey_18 sh_64 (by decide) (by decide) e_j2 l_j2 (fun τ3 e_τ3 => ?_)
    have h := h τ3 e_τ3
    refine v_aload_n dX1_addKey_19 rfl rfl ?_
    refine u_getr fX1_15 dX1_addKey_20 sh_63 rfl (by decide) (rf_63_1 _) ?_
    refine v_aload_n dX1_addKey_23 rfl rfl ?_
    refine u_geti fX1_18 dX1_addKey_24 sh_63 rfl (by decide) ?_
    refine v_iconst (v := 1) dX1_addKey_27 (by decide) ?_
    refine v_iadd dX1_addKey_28 ?_
    refine v_aload_n dX1_addKey_29 rfl rfl ?_
    refine u_getr fX1_15 dX1_addKey_30 sh_63 rfl (by decide) (rf_63_1 _) ?_
    refine v_aload_n dX1_addKey_33 rfl rfl ?_
    refine u_geti fX1_18 dX1_addKey_34 sh_63 rfl (by decide) ?_
    obtain ⟨j4, e_j4, l_j4, h⟩ := h
    refine u_iald dX1_addKey_37 sh_65 (by decide) (by decide) e_j4 l_j4 ?_
    refine v_iload_n dX1_addKey_38 rfl rfl ?_
    refine v_ior dX1_addKey_39 ?_
    obtain ⟨j5, e_j5, l_j5, h⟩ := h
    refine u_iast dX1_addKey_40 sh_65 (by decide) (by decide) e_j5 l_j5 (fun τ6 e_τ6 => ?_)
    have h := h τ6 e_τ6
    refine v_aload_n dX1_addKey_41 rfl rfl ?_
    refine v_dup dX1_addKey_42 rfl ?_
    refine u_geti fX1_18 dX1_addKey_43 sh_63 rfl (by decide) ?_
    refine v_iconst (v := 1) dX1_addKey_46 (by decide) ?_
    refine v_iadd dX1_addKey_47 ?_
    refine u_puti pX1_18 ⟨_, rfl⟩ dX1_addKey_48 sh_63 rfl (by decide) (by decide) (fun τ7 e_τ7 => ?_)
    have h := h τ7 e_τ7
    exact u_vret dX1_addKey_51 ⟨rfl, id⟩ h
def T_X1_choose : Nat → Int32 → Int32 → Int32 → kT → (kT → Prop) → Prop
  | 0, _, _, _, _, _ => False
  | n0 + 1, a1, a2, a3, τ, post => (T_J6_bitCount_0f7a4 a2 τ (fun r1 τ2 => ((r1 < (q_i τ2 63 5) → ((¬ ((q_i τ2 63 3) &&& (a3 ^^^ (-1 : Int32))) = 0 → (∃ j5 : Nat, a1 = nI j5 ∧ j5 < 15 ∧ ((((q_i τ2 63 3) &&& ((a3 ||| (q_i τ2 65 j5)) ^^^ (-1 : Int32))) = 0 → ((¬ (0 : Int32) = 0 → post τ2) ∧ ((0 : Int32) = 0 → ((0 < a1 → (∀ v9 : Int32, v9 = (a1 - (1 : Int32)) → ((T_X1_choose n0) v9 a2 a3 τ2 (fun τ11 => (∃ j12 : Nat, v9 = nI j12 ∧ j12 < 14 ∧ ((T_X1_choose n0) v9 (a2 ||| ((1 : Int32) <<< (v9 &&& 31))) (a3 ||| (q_i τ11 64 j12)) τ11 (fun τ14 => post τ14))))))) ∧ (¬ 0 < a1 → post τ2))))) ∧ (¬ ((q_i τ2 63 3) &&& ((a3 ||| (q_i τ2 65 j5)) ^^^ (-1 : Int32))) = 0 → ((¬ (1 : Int32) = 0 → post τ2) ∧ ((1 : Int32) = 0 → ((0 < a1 → (∀ v17 : Int32, v17 = (a1 - (1 : Int32)) → ((T_X1_choose n0) v17 a2 a3 τ2 (fun τ19 => (∃ j20 : Nat, v17 = nI j20 ∧ j20 < 14 ∧ ((T_X1_choose n0) v17 (a2 ||| ((1 : Int32) <<< (v17 &&& 31))) (a3 ||| (q_i τ19 64 j20)) τ19 (fun τ22 => post τ22))))))) ∧ (¬ 0 < a1 → post τ2)))))))) ∧ (((q_i τ2 63 3) &&& (a3 ^^^ (-1 : Int32))) = 0 → (∀ τ23 : kT, τ23 = q_si τ2 63 4 a2 → (T_J6_bitCount_0f7a4 a2 τ23 (fun r24 τ25 => (∀ τ26 : kT, τ26 = q_si τ25 63 5 r24 → post τ26))))))) ∧ (¬ r1 < (q_i τ2 63 5) → post τ2))))
set_option maxRecDepth 100000 in
set_option maxHeartbeats 4000000 in
theorem v_X1_choose {d : Nat} : ∀ (n : Nat) (a1 : Int32) (a2 : Int32) (a3 : Int32) (τ : kT) (post : kT → Prop), T_X1_choose n a1 a2 a3 τ post → U yX1_choose cX1_choose 6 none (d + n + 1) kE0 0 [some (.ref 63), some (.int a1), some (.int a2), some (.int a3), none, none] [] τ (k_pv post) := by
  intro n
  induction n with
  | zero => intro a1 a2 a3 τ post h; exact h.elim
  | succ n0 ihR =>
    intro a1 a2 a3 τ post h
    unfold T_X1_choose at h
    rw [show d + (n0 + 1) + 1 = d + n0 + 2 by omega]
    refine v_iload_n dX1_choose_0 rfl rfl ?_
    refine u_callS [.int a2] mJ6_bitCount_0f7a4 sJ6_bitCount_0f7a4 lX1_35 dX1_choose_1 ⟨rfl, rfl, id⟩ rfl rfl (Nat.le_of_ble_eq_true rfl) (Nat.le_of_ble_eq_true rfl) (v_J6_bitCount_0f7a4 a2 _ _ h) ?_
    rintro _ τ2 ⟨r1, rfl, h⟩
    refine v_aload_n dX1_choose_4 rfl rfl ?_
    refine u_geti fX1_28 dX1_choose_5 sh_63 rfl (by decide) ?_
    refine v_icmp_lt (tgt := 12) dX1_choose_8 (by decide) (fun c3 => ?_) (fun c3 => ?_)
    · have h := h.1 c3
      refine v_aload_n dX1_choose_12 rfl rfl ?_
      refine u_geti fX1_22 dX1_choose_13 sh_63 rfl (by decide) ?_
      refine v_iload_n dX1_choose_16 rfl rfl ?_
      refine v_iconst (v := -1) dX1_choose_17 (by decide) ?_
      refine v_ixor dX1_choose_18 ?_
      refine v_iand dX1_choose_19 ?_
      refine v_if_ne (tgt := 37) dX1_choose_20 (by decide) (fun c4 => ?_) (fun c4 => ?_)
      · have h := h.1 c4
        refine v_aload_n dX1_choose_37 rfl rfl ?_
        refine u_geti fX1_22 dX1_choose_38 sh_63 rfl (by decide) ?_
        refine v_iload_n dX1_choose_41 rfl rfl ?_
        refine v_aload_n dX1_choose_42 rfl rfl ?_
        refine u_getr fX1_15 dX1_choose_43 sh_63 rfl (by decide) (rf_63_1 _) ?_
        refine v_iload_n dX1_choose_46 rfl rfl ?_
        obtain ⟨j5, e_j5, l_j5, h⟩ := h
        refine u_iald dX1_choose_47 sh_65 (by decide) (by decide) e_j5 l_j5 ?_
        refine v_ior dX1_choose_48 ?_
        refine v_iconst (v := -1) dX1_choose_49 (by decide) ?_
        refine v_ixor dX1_choose_50 ?_
        refine v_iand dX1_choose_51 ?_
        refine v_if_eq (tgt := 59) dX1_choose_52 (by decide) (fun c6 => ?_) (fun c6 => ?_)
        · have h := h.1 c6
          refine v_iconst (v := 0) dX1_choose_59 (by decide) ?_
          refine v_istore dX1_choose_60 (by decide) rfl ?_
          refine v_ls (ls2 := [some (.ref 63), some (.int a1), some (.int a2), some (.int a3), some (.int (0 : Int32)), none]) rfl ?_
          refine v_iload dX1_choose_62 rfl ?_
          refine v_if_ne (tgt := 71) dX1_choose_64 (by decide) (fun c7 => ?_) (fun c7 => ?_)
          · have h := h.1 c7
            exact u_vret dX1_choose_71 ⟨rfl, id⟩ h
          · have h := h.2 c7
            refine v_iload_n dX1_choose_67 rfl rfl ?_
            refine v_if_gt (tgt := 72) dX1_choose_68 (by decide) (fun c8 => ?_) (fun c8 => ?_)
            · have h := h.1 c8
              refine v_iload_n dX1_choose_72 rfl rfl ?_
              refine v_iconst (v := 1) dX1_choose_73 (by decide) ?_
              refine v_isub dX1_choose_74 ?_
              refine v_topi (fun v9 e_v9 => ?_)
              have h := h v9 e_v9
              refine v_istore dX1_choose_75 (by decide) rfl ?_
              refine v_ls (ls2 := [some (.ref 63), some (.int a1), some (.int a2), some (.int a3), some (.int (0 : Int32)), some (.int v9)]) rfl ?_
              refine v_aload_n dX1_choose_77 rfl rfl ?_
              refine v_iload dX1_choose_78 rfl ?_
              refine v_iload_n dX1_choose_80 rfl rfl ?_
              refine v_iload_n dX1_choose_81 rfl rfl ?_
              refine u_callV [.int v9, .int a2, .int a3] mX1_choose iX1_choose lX1_31 dX1_choose_82 sh_63 rfl rfl (by decide) ⟨rfl, rfl, id⟩ rfl rfl (Nat.le_of_ble_eq_true rfl) (Nat.le_of_ble_eq_true rfl) (ihR v9 a2 a3 _ _ h) ?_
              rintro _ τ11 ⟨rfl, h⟩
              refine v_aload_n dX1_choose_85 rfl rfl ?_
              refine v_iload dX1_choose_86 rfl ?_
              refine v_iload_n dX1_choose_88 rfl rfl ?_
              refine v_iconst (v := 1) dX1_choose_89 (by decide) ?_
              refine v_iload dX1_choose_90 rfl ?_
              refine v_ishl dX1_choose_92 ?_
              refine v_ior dX1_choose_93 ?_
              refine v_iload_n dX1_choose_94 rfl rfl ?_
              refine v_aload_n dX1_choose_95 rfl rfl ?_
              refine u_getr fX1_9 dX1_choose_96 sh_63 rfl (by decide) (rf_63_0 _) ?_
              refine v_iload dX1_choose_99 rfl ?_
              obtain ⟨j12, e_j12, l_j12, h⟩ := h
              refine u_iald dX1_choose_101 sh_64 (by decide) (by decide) e_j12 l_j12 ?_
              refine v_ior dX1_choose_102 ?_
              refine u_callV [.int v9, .int (a2 ||| ((1 : Int32) <<< (v9 &&& 31))), .int (a3 ||| (q_i τ11 64 j12))] mX1_choose iX1_choose lX1_31 dX1_choose_103 sh_63 rfl rfl (by decide) ⟨rfl, rfl, id⟩ rfl rfl (Nat.le_of_ble_eq_true rfl) (Nat.le_of_ble_eq_true rfl) (ihR v9 (a2 ||| ((1 : Int32) <<< (v9 &&& 31))) (a3 ||| (q_i τ11 64 j12)) _ _ h) ?_
              rintro _ τ14 ⟨rfl, h⟩
              exact u_vret dX1_choose_106 ⟨rfl, id⟩ h
            · have h := h.2 c8
              exact u_vret dX1_choose_71 ⟨rfl, id⟩ h
        · have h := h.2 c6
          refine v_iconst (v := 1) dX1_choose_55 (by decide) ?_
          refine v_goto (tgt := 60) dX1_choose_56 (by decide) ?_
          refine v_istore dX1_choose_60 (by decide) rfl ?_
          refine v_ls (ls2 := [some (.ref 63), some (.int a1), some (.int a2), some (.int a3), some (.int (1 : Int32)), none]) rfl ?_
          refine v_iload dX1_choose_62 rfl ?_
          refine v_if_ne (tgt := 71) dX1_choose_64 (by decide) (fun c15 => ?_) (fun c15 => ?_)
          · have h := h.1 c15
            exact u_vret dX1_choose_71 ⟨rfl, id⟩ h
          · have h := h.2 c15
            refine v_iload_n dX1_choose_67 rfl rfl ?_
            refine v_if_gt (tgt := 72) dX1_choose_68 (by decide) (fun c16 => ?_) (fun c16 => ?_)
            · have h := h.1 c16
              refine v_iload_n dX1_choose_72 rfl rfl ?_
              refine v_iconst (v := 1) dX1_choose_73 (by decide) ?_
              refine v_isub dX1_choose_74 ?_
              refine v_topi (fun v17 e_v17 => ?_)
              have h := h v17 e_v17
              refine v_istore dX1_choose_75 (by decide) rfl ?_
              refine v_ls (ls2 := [some (.ref 63), some (.int a1), some (.int a2), some (.int a3), some (.int (1 : Int32)), some (.int v17)]) rfl ?_
              refine v_aload_n dX1_choose_77 rfl rfl ?_
              refine v_iload dX1_choose_78 rfl ?_
              refine v_iload_n dX1_choose_80 rfl rfl ?_
              refine v_iload_n dX1_choose_81 rfl rfl ?_
              refine u_callV [.int v17, .int a2, .int a3] mX1_choose iX1_choose lX1_31 dX1_choose_82 sh_63 rfl rfl (by decide) ⟨rfl, rfl, id⟩ rfl rfl (Nat.le_of_ble_eq_true rfl) (Nat.le_of_ble_eq_true rfl) (ihR v17 a2 a3 _ _ h) ?_
              rintro _ τ19 ⟨rfl, h⟩
              refine v_aload_n dX1_choose_85 rfl rfl ?_
              refine v_iload dX1_choose_86 rfl ?_
              refine v_iload_n dX1_choose_88 rfl rfl ?_
              refine v_iconst (v := 1) dX1_choose_89 (by decide) ?_
              refine v_iload dX1_choose_90 rfl ?_
              refine v_ishl dX1_choose_92 ?_
              refine v_ior dX1_choose_93 ?_
              refine v_iload_n dX1_choose_94 rfl rfl ?_
              refine v_aload_n dX1_choose_95 rfl rfl ?_
              refine u_getr fX1_9 dX1_choose_96 sh_63 rfl (by decide) (rf_63_0 _) ?_
              refine v_iload dX1_choose_99 rfl ?_
              obtain ⟨j20, e_j20, l_j20, h⟩ := h
              refine u_iald dX1_choose_101 sh_64 (by decide) (by decide) e_j20 l_j20 ?_
              refine v_ior dX1_choose_102 ?_
              refine u_callV [.int v17, .int (a2 ||| ((1 : Int32) <<< (v17 &&& 31))), .int (a3 ||| (q_i τ19 64 j20))] mX1_choose iX1_choose lX1_31 dX1_choose_103 sh_63 rfl rfl (by decide) ⟨rfl, rfl, id⟩ rfl rfl (Nat.le_of_ble_eq_true rfl) (Nat.le_of_ble_eq_true rfl) (ihR v17 (a2 ||| ((1 : Int32) <<< (v17 &&& 31))) (a3 ||| (q_i τ19 64 j20)) _ _ h) ?_
              rintro _ τ22 ⟨rfl, h⟩
              exact u_vret dX1_choose_106 ⟨rfl, id⟩ h
            · have h := h.2 c16
              exact u_vret dX1_choose_71 ⟨rfl, id⟩ h
      · have h := h.2 c4
        refine v_aload_n dX1_choose_23 rfl rfl ?_
        refine v_iload_n dX1_choose_24 rfl rfl ?_
        refine u_puti pX1_25 ⟨_, rfl⟩ dX1_choose_25 sh_63 rfl (by decide) (by decide) (fun τ23 e_τ23 => ?_)
        have h := h τ23 e_τ23
        refine v_aload_n dX1_choose_28 rfl rfl ?_
        refine v_iload_n dX1_choose_29 rfl rfl ?_
        refine u_callS [.int a2] mJ6_bitCount_0f7a4 sJ6_bitCount_0f7a4 lX1_35 dX1_choose_30 ⟨rfl, rfl, id⟩ rfl rfl (Nat.le_of_ble_eq_true rfl) (Nat.le_of_ble_eq_true rfl) (v_J6_bitCount_0f7a4 a2 _ _ h) ?_
        rintro _ τ25 ⟨r24, rfl, h⟩
        refine u_puti pX1_28 ⟨_, rfl⟩ dX1_choose_33 sh_63 rfl (by decide) (by decide) (fun τ26 e_τ26 => ?_)
        have h := h τ26 e_τ26
        exact u_vret dX1_choose_36 ⟨rfl, id⟩ h
    · have h := h.2 c3
      exact u_vret dX1_choose_11 ⟨rfl, id⟩ h
theorem v_X1_choose_N {d : Nat} (a1 : Int32) (a2 : Int32) (a3 : Int32) (τ : kT) (post : kT → Prop) (h : T_X1_choose 15 a1 a2 a3 τ post) : U yX1_choose cX1_choose 6 none (d + 16) kE0 0 [some (.ref 63), some (.int a1), some (.int a2), some (.int a3), none, none] [] τ (k_pv post) := by
  have h9 := v_X1_choose (d := d) 15 a1 a2 a3 τ post h
  rw [show d + 15 + 1 = d + 16 by omega] at h9
  exact h9
def T_X1_fewest (a1 : Int32) (τ : kT) (post : Int32 → kT → Prop) : Prop := (∃ j1 : Nat, (q_i τ 63 2) = nI j1 ∧ j1 < 15 ∧ (∀ τ2 : kT, τ2 = q_si τ 63 3 (a1 &&& (q_i τ 65 j1)) → (∀ τ3 : kT, τ3 = q_si τ2 63 4 (0 : Int32) → (∀ τ4 : kT, τ4 = q_si τ3 63 5 (15 : Int32) → (T_X1_choose 15 (q_i τ4 63 2) (0 : Int32) (0 : Int32) τ4 (fun τ6 => post (q_i τ6 63 4) τ6))))))
set_option maxRecDepth 100000 in
set_option maxHeartbeats 4000000 in
theorem v_X1_fewest {d : Nat}  (a1 : Int32) (τ : kT) (post : Int32 → kT → Prop) (h : T_X1_fewest  a1 τ post) : U yX1_fewest cX1_fewest 2 (some .int) (d + 17) kE0 0 [some (.ref 63), some (.int a1)] [] τ (k_pi post) := by
  unfold T_X1_fewest at h
  refine v_aload_n dX1_fewest_0 rfl rfl ?_
  refine v_iload_n dX1_fewest_1 rfl rfl ?_
  refine v_aload_n dX1_fewest_2 rfl rfl ?_
  refine u_getr fX1_15 dX1_fewest_3 sh_63 rfl (by decide) (rf_63_1 _) ?_
  refine v_aload_n dX1_fewest_6 rfl rfl ?_
  refine u_geti fX1_18 dX1_fewest_7 sh_63 rfl (by decide) ?_
  obtain ⟨j1, e_j1, l_j1, h⟩ := h
  refine u_iald dX1_fewest_10 sh_65 (by decide) (by decide) e_j1 l_j1 ?_
  refine v_iand dX1_fewest_11 ?_
  refine u_puti pX1_22 ⟨_, rfl⟩ dX1_fewest_12 sh_63 rfl (by decide) (by decide) (fun τ2 e_τ2 => ?_)
  have h := h τ2 e_τ2
  refine v_aload_n dX1_fewest_15 rfl rfl ?_
  refine v_iconst (v := 0) dX1_fewest_16 (by decide) ?_
  refine u_puti pX1_25 ⟨_, rfl⟩ dX1_fewest_17 sh_63 rfl (by decide) (by decide) (fun τ3 e_τ3 => ?_)
  have h := h τ3 e_τ3
  refine v_aload_n dX1_fewest_20 rfl rfl ?_
  refine v_bipush (v := 15) dX1_fewest_21 (by decide) ?_
  refine u_puti pX1_28 ⟨_, rfl⟩ dX1_fewest_23 sh_63 rfl (by decide) (by decide) (fun τ4 e_τ4 => ?_)
  have h := h τ4 e_τ4
  refine v_aload_n dX1_fewest_26 rfl rfl ?_
  refine v_aload_n dX1_fewest_27 rfl rfl ?_
  refine u_geti fX1_18 dX1_fewest_28 sh_63 rfl (by decide) ?_
  refine v_iconst (v := 0) dX1_fewest_31 (by decide) ?_
  refine v_iconst (v := 0) dX1_fewest_32 (by decide) ?_
  refine u_callV [.int (q_i τ4 63 2), .int (0 : Int32), .int (0 : Int32)] mX1_choose iX1_choose lX1_31 dX1_fewest_33 sh_63 rfl rfl (by decide) ⟨rfl, rfl, id⟩ rfl rfl (Nat.le_of_ble_eq_true rfl) (Nat.le_of_ble_eq_true rfl) (v_X1_choose_N (q_i τ4 63 2) (0 : Int32) (0 : Int32) _ _ h) ?_
  rintro _ τ6 ⟨rfl, h⟩
  refine v_aload_n dX1_fewest_36 rfl rfl ?_
  refine u_geti fX1_25 dX1_fewest_37 sh_63 rfl (by decide) ?_
  exact u_iret dX1_fewest_40 ⟨rfl, id⟩ h
def L_X10_carry_36  (f1 : Int32) (f2 : Int32) (K : Int32 → kT → Prop) (post : Int32 → kT → Prop) : Nat → Int32 → kT → Prop
  | 0, _, _ => False
  | n + 1, x3, τ => ((f2 ≤ x3 → K x3 τ) ∧ (¬ f2 ≤ x3 → (T_X10_doorsThatOpen x3 τ (fun r8 τ9 => (T_X1_addKey r8 τ9 (fun τ11 => (∀ v12 : Int32, v12 = x3 + (1 : Int32) → L_X10_carry_36 f1 f2 K post n v12 τ11)))))))
def T_X10_carry (a1 : Int32) (τ : kT) (post : Int32 → kT → Prop) : Prop := (T_X10_areDoors a1 τ (fun r1 τ2 => ((¬ r1 = 0 → (∀ v4 : Int32, v4 = (q_min (q_i τ2 9 5) (14 : Int32)) → (T_X1_begin  τ2 (fun τ6 => (∃ m13 : Nat, L_X10_carry_36  a1 v4 (fun v14 τ15 => (T_X1_fewest a1 τ15 (fun r16 τ17 => post r16 τ17))) post m13 (0 : Int32) τ6))))) ∧ (r1 = 0 → post (-2 : Int32) τ2))))
set_option maxRecDepth 100000 in
set_option maxHeartbeats 4000000 in
theorem l_X10_carry_36 {d : Nat}  (f1 : Int32) (f2 : Int32) {K : Int32 → kT → Prop} {post : Int32 → kT → Prop} (hK : ∀ (x3 : Int32) (τ : kT), K x3 τ → U yX10_carry cX10_carry 4 (some .int) (d + 18) kE0 59 [some (.ref 0), some (.int f1), some (.int f2), some (.int x3)] [] τ (k_pi post)) : ∀ (n : Nat) (x3 : Int32) (τ : kT), L_X10_carry_36  f1 f2 K post n x3 τ → U yX10_carry cX10_carry 4 (some .int) (d + 18) kE0 36 [some (.ref 0), some (.int f1), some (.int f2), some (.int x3)] [] τ (k_pi post) := by
  intro n
  induction n with
  | zero => intro x3 τ h; exact h.elim
  | succ n ih =>
    intro x3 τ h
    unfold L_X10_carry_36 at h
    refine v_iload_n dX10_carry_36 rfl rfl ?_
    refine v_iload_n dX10_carry_37 rfl rfl ?_
    refine v_icmp_ge (tgt := 59) dX10_carry_38 (by decide) (fun c7 => ?_) (fun c7 => ?_)
    · have h := h.1 c7
      exact hK x3 _ h
    · have h := h.2 c7
      refine v_aload_n dX10_carry_41 rfl rfl ?_
      refine u_getr fX10_60 dX10_carry_42 sh_0 rfl (by decide) (rf_0_10 _) ?_
      refine v_aload_n dX10_carry_45 rfl rfl ?_
      refine v_iload_n dX10_carry_46 rfl rfl ?_
      refine u_callV [.int x3] mX10_doorsThatOpen iX10_doorsThatOpen lX10_305 dX10_carry_47 sh_0 rfl rfl (by decide) ⟨rfl, rfl, id⟩ rfl rfl (Nat.le_of_ble_eq_true rfl) (Nat.le_of_ble_eq_true rfl) (v_X10_doorsThatOpen x3 _ _ h) ?_
      rintro _ τ9 ⟨r8, rfl, h⟩
      refine u_callV [.int r8] mX1_addKey iX1_addKey lX10_341 dX10_carry_50 sh_63 rfl rfl (by decide) ⟨rfl, rfl, id⟩ rfl rfl (Nat.le_of_ble_eq_true rfl) (Nat.le_of_ble_eq_true rfl) (v_X1_addKey r8 _ _ h) ?_
      rintro _ τ11 ⟨rfl, h⟩
      obtain ⟨v12, e_v12⟩ : ∃ z : Int32, z = x3 + (1 : Int32) := ⟨_, rfl⟩
      have h := h v12 e_v12
      refine v_iinc (v := v12) dX10_carry_53 rfl (by rw [e_v12]; rfl) (by decide) rfl ?_
      refine v_ls (ls2 := [some (.ref 0), some (.int f1), some (.int f2), some (.int v12)]) rfl ?_
      refine v_goto (tgt := 36) dX10_carry_56 (by decide) ?_
      exact ih v12 _ h
set_option maxRecDepth 100000 in
set_option maxHeartbeats 4000000 in
theorem v_X10_carry {d : Nat}  (a1 : Int32) (τ : kT) (post : Int32 → kT → Prop) (h : T_X10_carry  a1 τ post) : U yX10_carry cX10_carry 4 (some .int) (d + 18) kE0 0 [some (.ref 0), some (.int a1), none, none] [] τ (k_pi post) := by
  unfold T_X10_carry at h
  refine v_aload_n dX10_carry_0 rfl rfl ?_
  refine v_iload_n dX10_carry_1 rfl rfl ?_
  refine u_callV [.int a1] mX10_areDoors iX10_areDoors lX10_332 dX10_carry_2 sh_0 rfl rfl (by decide) ⟨rfl, rfl, id⟩ rfl rfl (Nat.le_of_ble_eq_true rfl) (Nat.le_of_ble_eq_true rfl) (v_X10_areDoors a1 _ _ h) ?_
  rintro _ τ2 ⟨r1, rfl, h⟩
  refine v_if_ne (tgt := 11) dX10_carry_5 (by decide) (fun c3 => ?_) (fun c3 => ?_)
  · have h := h.1 c3
    refine v_aload_n dX10_carry_11 rfl rfl ?_
    refine u_getr fX10_10 dX10_carry_12 sh_0 rfl (by decide) (rf_0_0 _) ?_
    refine u_getr fX10_191 dX10_carry_15 sh_1 rfl (by decide) (rf_1_1 _) ?_
    refine u_geti fX10_209 dX10_carry_18 sh_9 rfl (by decide) ?_
    refine v_bipush (v := 14) dX10_carry_21 (by decide) ?_
    refine v_min aX10_335 ⟨rfl, rfl, id⟩ (Nat.le_of_ble_eq_true rfl) dX10_carry_23 ?_
    refine v_topi (fun v4 e_v4 => ?_)
    have h := h v4 e_v4
    refine v_istore_n dX10_carry_26 rfl (by decide) rfl ?_
    refine v_ls (ls2 := [some (.ref 0), some (.int a1), some (.int v4), none]) rfl ?_
    refine v_aload_n dX10_carry_27 rfl rfl ?_
    refine u_getr fX10_60 dX10_carry_28 sh_0 rfl (by decide) (rf_0_10 _) ?_
    refine u_callV [] mX1_begin iX1_begin lX10_340 dX10_carry_31 sh_63 rfl rfl (by decide) ⟨rfl, rfl, id⟩ rfl rfl (Nat.le_of_ble_eq_true rfl) (Nat.le_of_ble_eq_true rfl) (v_X1_begin  _ _ h) ?_
    rintro _ τ6 ⟨rfl, h⟩
    refine v_iconst (v := 0) dX10_carry_34 (by decide) ?_
    refine v_istore_n dX10_carry_35 rfl (by decide) rfl ?_
    refine v_ls (ls2 := [some (.ref 0), some (.int a1), some (.int v4), some (.int (0 : Int32))]) rfl ?_
    obtain ⟨m13, h⟩ := h
    refine l_X10_carry_36  a1 v4 (fun v14 τ15 h => ?_) m13 (0 : Int32) _ h
    refine v_aload_n dX10_carry_59 rfl rfl ?_
    refine u_getr fX10_60 dX10_carry_60 sh_0 rfl (by decide) (rf_0_10 _) ?_
    refine v_iload_n dX10_carry_63 rfl rfl ?_
    refine u_callV [.int a1] mX1_fewest iX1_fewest lX10_345 dX10_carry_64 sh_63 rfl rfl (by decide) ⟨rfl, rfl, id⟩ rfl rfl (Nat.le_of_ble_eq_true rfl) (Nat.le_of_ble_eq_true rfl) (v_X1_fewest a1 _ _ h) ?_
    rintro _ τ17 ⟨r16, rfl, h⟩
    exact u_iret dX10_carry_67 ⟨rfl, id⟩ h
  · have h := h.2 c3
    refine v_bipush (v := -2) dX10_carry_8 (by decide) ?_
    exact u_iret dX10_carry_10 ⟨rfl, id⟩ h
def L_X10_closed_32  (f1 : Int32) (f2 : Int32) (K : Int32 → Int32 → kT → Prop) (post : Int32 → kT → Prop) : Nat → Int32 → Int32 → kT → Prop
  | 0, _, _, _ => False
  | n + 1, x3, x4, τ => ((f2 ≤ x4 → K x3 x4 τ) ∧ (¬ f2 ≤ x4 → (T_X10_doorsThatOpen x4 τ (fun r6 τ7 => (∀ v8 : Int32, v8 = (x3 ||| r6) → (∀ v9 : Int32, v9 = x4 + (1 : Int32) → L_X10_closed_32 f1 f2 K post n v8 v9 τ7))))))
def T_X10_closed (a1 : Int32) (τ : kT) (post : Int32 → kT → Prop) : Prop := (T_X10_areDoors a1 τ (fun r1 τ2 => ((¬ r1 = 0 → (∀ v4 : Int32, v4 = (q_min (q_i τ2 9 5) (14 : Int32)) → (∃ m10 : Nat, L_X10_closed_32  a1 v4 (fun v11 v12 τ13 => post (a1 &&& (v11 ^^^ (-1 : Int32))) τ13) post m10 (0 : Int32) (0 : Int32) τ2))) ∧ (r1 = 0 → post (-2 : Int32) τ2))))
set_option maxRecDepth 100000 in
set_option maxHeartbeats 4000000 in
theorem l_X10_closed_32 {d : Nat}  (f1 : Int32) (f2 : Int32) {K : Int32 → Int32 → kT → Prop} {post : Int32 → kT → Prop} (hK : ∀ (x3 : Int32) (x4 : Int32) (τ : kT), K x3 x4 τ → U yX10_closed cX10_closed 5 (some .int) (d + 5) kE0 53 [some (.ref 0), some (.int f1), some (.int f2), some (.int x3), some (.int x4)] [] τ (k_pi post)) : ∀ (n : Nat) (x3 : Int32) (x4 : Int32) (τ : kT), L_X10_closed_32  f1 f2 K post n x3 x4 τ → U yX10_closed cX10_closed 5 (some .int) (d + 5) kE0 32 [some (.ref 0), some (.int f1), some (.int f2), some (.int x3), some (.int x4)] [] τ (k_pi post) := by
  intro n
  induction n with
  | zero => intro x3 x4 τ h; exact h.elim
  | succ n ih =>
    intro x3 x4 τ h
    unfold L_X10_closed_32 at h
    refine v_iload dX10_closed_32 rfl ?_
    refine v_iload_n dX10_closed_34 rfl rfl ?_
    refine v_icmp_ge (tgt := 53) dX10_closed_35 (by decide) (fun c5 => ?_) (fun c5 => ?_)
    · have h := h.1 c5
      exact hK x3 x4 _ h
    · have h := h.2 c5
      refine v_iload_n dX10_closed_38 rfl rfl ?_
      refine v_aload_n dX10_closed_39 rfl rfl ?_
      refine v_iload dX10_closed_40 rfl ?_
      refine u_callV [.int x4] mX10_doorsThatOpen iX10_doorsThatOpen lX10_305 dX10_closed_42 sh_0 rfl rfl (by decide) ⟨rfl, rfl, id⟩ rfl rfl (Nat.le_of_ble_eq_true rfl) (Nat.le_of_ble_eq_true rfl) (v_X10_doorsThatOpen x4 _ _ h) ?_
      rintro _ τ7 ⟨r6, rfl, h⟩
      refine v_ior dX10_closed_45 ?_
      refine v_topi (fun v8 e_v8 => ?_)
      have h := h v8 e_v8
      refine v_istore_n dX10_closed_46 rfl (by decide) rfl ?_
      refine v_ls (ls2 := [some (.ref 0), some (.int f1), some (.int f2), some (.int v8), some (.int x4)]) rfl ?_
      obtain ⟨v9, e_v9⟩ : ∃ z : Int32, z = x4 + (1 : Int32) := ⟨_, rfl⟩
      have h := h v9 e_v9
      refine v_iinc (v := v9) dX10_closed_47 rfl (by rw [e_v9]; rfl) (by decide) rfl ?_
      refine v_ls (ls2 := [some (.ref 0), some (.int f1), some (.int f2), some (.int v8), some (.int v9)]) rfl ?_
      refine v_goto (tgt := 32) dX10_closed_50 (by decide) ?_
      exact ih v8 v9 _ h
set_option maxRecDepth 100000 in
set_option maxHeartbeats 4000000 in
theorem v_X10_closed {d : Nat}  (a1 : Int32) (τ : kT) (post : Int32 → kT → Prop) (h : T_X10_closed  a1 τ post) : U yX10_closed cX10_closed 5 (some .int) (d + 5) kE0 0 [some (.ref 0), some (.int a1), none, none, none] [] τ (k_pi post) := by
  unfold T_X10_closed at h
  refine v_aload_n dX10_closed_0 rfl rfl ?_
  refine v_iload_n dX10_closed_1 rfl rfl ?_
  refine u_callV [.int a1] mX10_areDoors iX10_areDoors lX10_332 dX10_closed_2 sh_0 rfl rfl (by decide) ⟨rfl, rfl, id⟩ rfl rfl (Nat.le_of_ble_eq_true rfl) (Nat.le_of_ble_eq_true rfl) (v_X10_areDoors a1 _ _ h) ?_
  rintro _ τ2 ⟨r1, rfl, h⟩
  refine v_if_ne (tgt := 11) dX10_closed_5 (by decide) (fun c3 => ?_) (fun c3 => ?_)
  · have h := h.1 c3
    refine v_aload_n dX10_closed_11 rfl rfl ?_
    refine u_getr fX10_10 dX10_closed_12 sh_0 rfl (by decide) (rf_0_0 _) ?_
    refine u_getr fX10_191 dX10_closed_15 sh_1 rfl (by decide) (rf_1_1 _) ?_
    refine u_geti fX10_209 dX10_closed_18 sh_9 rfl (by decide) ?_
    refine v_bipush (v := 14) dX10_closed_21 (by decide) ?_
    refine v_min aX10_335 ⟨rfl, rfl, id⟩ (Nat.le_of_ble_eq_true rfl) dX10_closed_23 ?_
    refine v_topi (fun v4 e_v4 => ?_)
    have h := h v4 e_v4
    refine v_istore_n dX10_closed_26 rfl (by decide) rfl ?_
    refine v_ls (ls2 := [some (.ref 0), some (.int a1), some (.int v4), none, none]) rfl ?_
    refine v_iconst (v := 0) dX10_closed_27 (by decide) ?_
    refine v_istore_n dX10_closed_28 rfl (by decide) rfl ?_
    refine v_ls (ls2 := [some (.ref 0), some (.int a1), some (.int v4), some (.int (0 : Int32)), none]) rfl ?_
    refine v_iconst (v := 0) dX10_closed_29 (by decide) ?_
    refine v_istore dX10_closed_30 (by decide) rfl ?_
    refine v_ls (ls2 := [some (.ref 0), some (.int a1), some (.int v4), some (.int (0 : Int32)), some (.int (0 : Int32))]) rfl ?_
    obtain ⟨m10, h⟩ := h
    refine l_X10_closed_32  a1 v4 (fun v11 v12 τ13 h => ?_) m10 (0 : Int32) (0 : Int32) _ h
    refine v_iload_n dX10_closed_53 rfl rfl ?_
    refine v_iload_n dX10_closed_54 rfl rfl ?_
    refine v_iconst (v := -1) dX10_closed_55 (by decide) ?_
    refine v_ixor dX10_closed_56 ?_
    refine v_iand dX10_closed_57 ?_
    exact u_iret dX10_closed_58 ⟨rfl, id⟩ h
  · have h := h.2 c3
    refine v_bipush (v := -2) dX10_closed_8 (by decide) ?_
    exact u_iret dX10_closed_10 ⟨rfl, id⟩ h
def T_X10_endangered (a1 : Int32) (τ : kT) (post : Int32 → kT → Prop) : Prop := (T_X5_has a1 τ (fun r1 τ2 => ((r1 = 0 → post (-2 : Int32) τ2) ∧ (¬ r1 = 0 → (T_X10_doorsThatOpen a1 τ2 (fun r4 τ5 => post r4 τ5))))))
set_option maxRecDepth 100000 in
set_option maxHeartbeats 4000000 in
theorem v_X10_endangered {d : Nat}  (a1 : Int32) (τ : kT) (post : Int32 → kT → Prop) (h : T_X10_endangered  a1 τ post) : U yX10_endangered cX10_endangered 2 (some .int) (d + 5) kE0 0 [some (.ref 0), some (.int a1)] [] τ (k_pi post) := by
  unfold T_X10_endangered at h
  refine v_aload_n dX10_endangered_0 rfl rfl ?_
  refine u_getr fX10_10 dX10_endangered_1 sh_0 rfl (by decide) (rf_0_0 _) ?_
  refine u_getr fX10_191 dX10_endangered_4 sh_1 rfl (by decide) (rf_1_1 _) ?_
  refine v_iload_n dX10_endangered_7 rfl rfl ?_
  refine u_callV [.int a1] mX5_has iX5_has lX10_202 dX10_endangered_8 sh_9 rfl rfl (by decide) ⟨rfl, rfl, id⟩ rfl rfl (Nat.le_of_ble_eq_true rfl) (Nat.le_of_ble_eq_true rfl) (v_X5_has a1 _ _ h) ?_
  rintro _ τ2 ⟨r1, rfl, h⟩
  refine v_if_eq (tgt := 22) dX10_endangered_11 (by decide) (fun c3 => ?_) (fun c3 => ?_)
  · have h := h.1 c3
    refine v_bipush (v := -2) dX10_endangered_22 (by decide) ?_
    exact u_iret dX10_endangered_24 ⟨rfl, id⟩ h
  · have h := h.2 c3
    refine v_aload_n dX10_endangered_14 rfl rfl ?_
    refine v_iload_n dX10_endangered_15 rfl rfl ?_
    refine u_callV [.int a1] mX10_doorsThatOpen iX10_doorsThatOpen lX10_305 dX10_endangered_16 sh_0 rfl rfl (by decide) ⟨rfl, rfl, id⟩ rfl rfl (Nat.le_of_ble_eq_true rfl) (Nat.le_of_ble_eq_true rfl) (v_X10_doorsThatOpen a1 _ _ h) ?_
    rintro _ τ5 ⟨r4, rfl, h⟩
    refine v_goto (tgt := 24) dX10_endangered_19 (by decide) ?_
    exact u_iret dX10_endangered_24 ⟨rfl, id⟩ h
def T_X10_finding  (τ : kT) (post : Int32 → kT → Prop) : Prop := post (q_i τ 0 4) τ
set_option maxRecDepth 100000 in
set_option maxHeartbeats 4000000 in
theorem v_X10_finding {d : Nat}   (τ : kT) (post : Int32 → kT → Prop) (h : T_X10_finding   τ post) : U yX10_finding cX10_finding 1 (some .int) (d + 0) kE0 0 [some (.ref 0)] [] τ (k_pi post) := by
  unfold T_X10_finding at h
  refine v_aload_n dX10_finding_0 rfl rfl ?_
  refine u_geti fX10_27 dX10_finding_1 sh_0 rfl (by decide) ?_
  exact u_iret dX10_finding_4 ⟨rfl, id⟩ h
def T_X7_entryAt (a1 : Int32) (τ : kT) (post : Int32 → kT → Prop) : Prop := ((a1 < 0 → post (-1 : Int32) τ) ∧ (¬ a1 < 0 → (((q_i τ 40 1) ≤ a1 → post (-1 : Int32) τ) ∧ (¬ (q_i τ 40 1) ≤ a1 → (((40 : Int32) ≤ a1 → post (-1 : Int32) τ) ∧ (¬ (40 : Int32) ≤ a1 → (∃ j4 : Nat, a1 = nI j4 ∧ j4 < 40 ∧ post (q_i τ 41 j4) τ)))))))
set_option maxRecDepth 100000 in
set_option maxHeartbeats 4000000 in
theorem v_X7_entryAt {d : Nat}  (a1 : Int32) (τ : kT) (post : Int32 → kT → Prop) (h : T_X7_entryAt  a1 τ post) : U yX7_entryAt cX7_entryAt 2 (some .int) (d + 0) kE0 0 [some (.ref 40), some (.int a1)] [] τ (k_pi post) := by
  unfold T_X7_entryAt at h
  refine v_iload_n dX7_entryAt_0 rfl rfl ?_
  refine v_if_lt (tgt := 27) dX7_entryAt_1 (by decide) (fun c1 => ?_) (fun c1 => ?_)
  · have h := h.1 c1
    refine v_iconst (v := -1) dX7_entryAt_27 (by decide) ?_
    exact u_iret dX7_entryAt_28 ⟨rfl, id⟩ h
  · have h := h.2 c1
    refine v_iload_n dX7_entryAt_4 rfl rfl ?_
    refine v_aload_n dX7_entryAt_5 rfl rfl ?_
    refine u_geti fX7_15 dX7_entryAt_6 sh_40 rfl (by decide) ?_
    refine v_icmp_ge (tgt := 27) dX7_entryAt_9 (by decide) (fun c2 => ?_) (fun c2 => ?_)
    · have h := h.1 c2
      refine v_iconst (v := -1) dX7_entryAt_27 (by decide) ?_
      exact u_iret dX7_entryAt_28 ⟨rfl, id⟩ h
    · have h := h.2 c2
      refine v_iload_n dX7_entryAt_12 rfl rfl ?_
      refine v_bipush (v := 40) dX7_entryAt_13 (by decide) ?_
      refine v_icmp_ge (tgt := 27) dX7_entryAt_15 (by decide) (fun c3 => ?_) (fun c3 => ?_)
      · have h := h.1 c3
        refine v_iconst (v := -1) dX7_entryAt_27 (by decide) ?_
        exact u_iret dX7_entryAt_28 ⟨rfl, id⟩ h
      · have h := h.2 c3
        refine v_aload_n dX7_entryAt_18 rfl rfl ?_
        refine u_getr fX7_9 dX7_entryAt_19 sh_40 rfl (by decide) (rf_40_0 _) ?_
        refine v_iload_n dX7_entryAt_22 rfl rfl ?_
        obtain ⟨j4, e_j4, l_j4, h⟩ := h
        refine u_iald dX7_entryAt_23 sh_41 (by decide) (by decide) e_j4 l_j4 ?_
        refine v_goto (tgt := 28) dX7_entryAt_24 (by decide) ?_
        exact u_iret dX7_entryAt_28 ⟨rfl, id⟩ h
def T_X10_trace (a1 : Int32) (τ : kT) (post : Int32 → kT → Prop) : Prop := (T_X7_entryAt a1 τ (fun r1 τ2 => post r1 τ2))
set_option maxRecDepth 100000 in
set_option maxHeartbeats 4000000 in
theorem v_X10_trace {d : Nat}  (a1 : Int32) (τ : kT) (post : Int32 → kT → Prop) (h : T_X10_trace  a1 τ post) : U yX10_trace cX10_trace 2 (some .int) (d + 1) kE0 0 [some (.ref 0), some (.int a1)] [] τ (k_pi post) := by
  unfold T_X10_trace at h
  refine v_aload_n dX10_trace_0 rfl rfl ?_
  refine u_getr fX10_36 dX10_trace_1 sh_0 rfl (by decide) (rf_0_6 _) ?_
  refine u_getr fX10_163 dX10_trace_4 sh_39 rfl (by decide) (rf_39_0 _) ?_
  refine v_iload_n dX10_trace_7 rfl rfl ?_
  refine u_callV [.int a1] mX7_entryAt iX7_entryAt lX10_348 dX10_trace_8 sh_40 rfl rfl (by decide) ⟨rfl, rfl, id⟩ rfl rfl (Nat.le_of_ble_eq_true rfl) (Nat.le_of_ble_eq_true rfl) (v_X7_entryAt a1 _ _ h) ?_
  rintro _ τ2 ⟨r1, rfl, h⟩
  exact u_iret dX10_trace_11 ⟨rfl, id⟩ h
def T_X10_told (a1 : Int32) (τ : kT) (post : Int32 → kT → Prop) : Prop := ((a1.toInt < 0 ∨ 9 < a1.toInt → post (-2 : Int32) τ) ∧ (a1 = nI 0 → post (q_i τ 2 5) τ) ∧ (a1 = nI 1 → post (q_i τ 9 5) τ) ∧ (a1 = nI 2 → post (q_i τ 15 3) τ) ∧ (a1 = nI 3 → post (q_i τ 1 4) τ) ∧ (a1 = nI 4 → post (q_i τ 1 5) τ) ∧ (a1 = nI 5 → post (q_i τ 1 6) τ) ∧ (a1 = nI 6 → post (q_i τ 0 3) τ) ∧ (a1 = nI 7 → post (q_i τ 0 5) τ) ∧ (a1 = nI 8 → post (q_i τ 40 1) τ) ∧ (a1 = nI 9 → post (q_i τ 2 6) τ))
set_option maxRecDepth 100000 in
set_option maxHeartbeats 4000000 in
theorem v_X10_told {d : Nat}  (a1 : Int32) (τ : kT) (post : Int32 → kT → Prop) (h : T_X10_told  a1 τ post) : U yX10_told cX10_told 2 (some .int) (d + 0) kE0 0 [some (.ref 0), some (.int a1)] [] τ (k_pi post) := by
  unfold T_X10_told at h
  refine v_iload_n dX10_told_0 rfl rfl ?_
  obtain ⟨h_out, h⟩ := h
  by_cases c1 : a1.toInt < 0 ∨ 9 < a1.toInt
  · have h := h_out c1
    refine v_tabOut (tgt := 145) dX10_told_1 c1 (by decide) ?_
    refine v_bipush (v := -2) dX10_told_145 (by decide) ?_
    exact u_iret dX10_told_147 ⟨rfl, id⟩ h
  · obtain ⟨k, hk, e_k⟩ := k_sw a1 9 (by decide) c1
    rcases (show k = 0 ∨ k = 1 ∨ k = 2 ∨ k = 3 ∨ k = 4 ∨ k = 5 ∨ k = 6 ∨ k = 7 ∨ k = 8 ∨ k = 9 by omega) with rfl | rfl | rfl | rfl | rfl | rfl | rfl | rfl | rfl | rfl
    · have h := h.1 e_k
      refine v_tabIn (off := 55) (tgt := 56) dX10_told_1 (fun q => c1 (Or.inl q)) (fun q => c1 (Or.inr q)) (by rw [e_k]; rfl) (by decide) ?_
      refine v_aload_n dX10_told_56 rfl rfl ?_
      refine u_getr fX10_10 dX10_told_57 sh_0 rfl (by decide) (rf_0_0 _) ?_
      refine u_getr fX10_72 dX10_told_60 sh_1 rfl (by decide) (rf_1_0 _) ?_
      refine u_geti fX10_76 dX10_told_63 sh_2 rfl (by decide) ?_
      exact u_iret dX10_told_66 ⟨rfl, id⟩ h
    · have h := h.2.1 e_k
      refine v_tabIn (off := 66) (tgt := 67) dX10_told_1 (fun q => c1 (Or.inl q)) (fun q => c1 (Or.inr q)) (by rw [e_k]; rfl) (by decide) ?_
      refine v_aload_n dX10_told_67 rfl rfl ?_
      refine u_getr fX10_10 dX10_told_68 sh_0 rfl (by decide) (rf_0_0 _) ?_
      refine u_getr fX10_191 dX10_told_71 sh_1 rfl (by decide) (rf_1_1 _) ?_
      refine u_geti fX10_209 dX10_told_74 sh_9 rfl (by decide) ?_
      exact u_iret dX10_told_77 ⟨rfl, id⟩ h
    · have h := h.2.2.1 e_k
      refine v_tabIn (off := 77) (tgt := 78) dX10_told_1 (fun q => c1 (Or.inl q)) (fun q => c1 (Or.inr q)) (by rw [e_k]; rfl) (by decide) ?_
      refine v_aload_n dX10_told_78 rfl rfl ?_
      refine u_getr fX10_10 dX10_told_79 sh_0 rfl (by decide) (rf_0_0 _) ?_
      refine u_getr fX10_228 dX10_told_82 sh_1 rfl (by decide) (rf_1_2 _) ?_
      refine u_geti fX10_250 dX10_told_85 sh_15 rfl (by decide) ?_
      exact u_iret dX10_told_88 ⟨rfl, id⟩ h
    · have h := h.2.2.2.1 e_k
      refine v_tabIn (off := 88) (tgt := 89) dX10_told_1 (fun q => c1 (Or.inl q)) (fun q => c1 (Or.inr q)) (by rw [e_k]; rfl) (by decide) ?_
      refine v_aload_n dX10_told_89 rfl rfl ?_
      refine u_getr fX10_10 dX10_told_90 sh_0 rfl (by decide) (rf_0_0 _) ?_
      refine u_geti fX10_265 dX10_told_93 sh_1 rfl (by decide) ?_
      exact u_iret dX10_told_96 ⟨rfl, id⟩ h
    · have h := h.2.2.2.2.1 e_k
      refine v_tabIn (off := 96) (tgt := 97) dX10_told_1 (fun q => c1 (Or.inl q)) (fun q => c1 (Or.inr q)) (by rw [e_k]; rfl) (by decide) ?_
      refine v_aload_n dX10_told_97 rfl rfl ?_
      refine u_getr fX10_10 dX10_told_98 sh_0 rfl (by decide) (rf_0_0 _) ?_
      refine u_geti fX10_268 dX10_told_101 sh_1 rfl (by decide) ?_
      exact u_iret dX10_told_104 ⟨rfl, id⟩ h
    · have h := h.2.2.2.2.2.1 e_k
      refine v_tabIn (off := 104) (tgt := 105) dX10_told_1 (fun q => c1 (Or.inl q)) (fun q => c1 (Or.inr q)) (by rw [e_k]; rfl) (by decide) ?_
      refine v_aload_n dX10_told_105 rfl rfl ?_
      refine u_getr fX10_10 dX10_told_106 sh_0 rfl (by decide) (rf_0_0 _) ?_
      refine u_geti fX10_178 dX10_told_109 sh_1 rfl (by decide) ?_
      exact u_iret dX10_told_112 ⟨rfl, id⟩ h
    · have h := h.2.2.2.2.2.2.1 e_k
      refine v_tabIn (off := 112) (tgt := 113) dX10_told_1 (fun q => c1 (Or.inl q)) (fun q => c1 (Or.inr q)) (by rw [e_k]; rfl) (by decide) ?_
      refine v_aload_n dX10_told_113 rfl rfl ?_
      refine u_geti fX10_23 dX10_told_114 sh_0 rfl (by decide) ?_
      exact u_iret dX10_told_117 ⟨rfl, id⟩ h
    · have h := h.2.2.2.2.2.2.2.1 e_k
      refine v_tabIn (off := 117) (tgt := 118) dX10_told_1 (fun q => c1 (Or.inl q)) (fun q => c1 (Or.inr q)) (by rw [e_k]; rfl) (by decide) ?_
      refine v_aload_n dX10_told_118 rfl rfl ?_
      refine u_geti fX10_30 dX10_told_119 sh_0 rfl (by decide) ?_
      exact u_iret dX10_told_122 ⟨rfl, id⟩ h
    · have h := h.2.2.2.2.2.2.2.2.1 e_k
      refine v_tabIn (off := 122) (tgt := 123) dX10_told_1 (fun q => c1 (Or.inl q)) (fun q => c1 (Or.inr q)) (by rw [e_k]; rfl) (by decide) ?_
      refine v_aload_n dX10_told_123 rfl rfl ?_
      refine u_getr fX10_36 dX10_told_124 sh_0 rfl (by decide) (rf_0_6 _) ?_
      refine u_getr fX10_163 dX10_told_127 sh_39 rfl (by decide) (rf_39_0 _) ?_
      refine u_geti fX10_351 dX10_told_130 sh_40 rfl (by decide) ?_
      exact u_iret dX10_told_133 ⟨rfl, id⟩ h
    · have h := h.2.2.2.2.2.2.2.2.2 e_k
      refine v_tabIn (off := 133) (tgt := 134) dX10_told_1 (fun q => c1 (Or.inl q)) (fun q => c1 (Or.inr q)) (by rw [e_k]; rfl) (by decide) ?_
      refine v_aload_n dX10_told_134 rfl rfl ?_
      refine u_getr fX10_10 dX10_told_135 sh_0 rfl (by decide) (rf_0_0 _) ?_
      refine u_getr fX10_72 dX10_told_138 sh_1 rfl (by decide) (rf_1_0 _) ?_
      refine u_geti fX10_147 dX10_told_141 sh_2 rfl (by decide) ?_
      exact u_iret dX10_told_144 ⟨rfl, id⟩ h
