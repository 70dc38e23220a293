def T_X10_lookAtHeight (a1 : Int32) (a2 : Int32) (a3 : Int32) (τ : kT) (post : Int32 → kT → Prop) : Prop := (T_X4_has a1 τ (fun r1 τ2 => ((¬ r1 = 0 → (T_X4_chamberFinding a1 a2 τ2 (fun r4 τ5 => ((r4 = 0 → (T_X4_heightsIn a1 a2 τ5 (fun r7 τ8 => ((¬ r7 = 0 → (T_X10_heightNumber r7 a3 τ8 (fun r10 τ11 => post r10 τ11))) ∧ (r7 = 0 → post (-11 : Int32) τ8))))) ∧ (¬ r4 = 0 → post r4 τ5))))) ∧ (r1 = 0 → post (-2 : Int32) τ2))))
set_option maxRecDepth 100000 in
set_option maxHeartbeats 4000000 in
theorem v_X10_lookAtHeight {d : Nat}  (a1 : Int32) (a2 : Int32) (a3 : Int32) (τ : kT) (post : Int32 → kT → Prop) (h : T_X10_lookAtHeight  a1 a2 a3 τ post) : U yX10_lookAtHeight cX10_lookAtHeight 7 (some .int) (d + 4) kE0 0 [some (.ref 0), some (.int a1), some (.int a2), some (.int a3), none, none, none] [] τ (k_pi post) := by
  unfold T_X10_lookAtHeight at h
  refine v_aload_n dX10_lookAtHeight_0 rfl rfl ?_
  refine u_getr fX10_10 dX10_lookAtHeight_1 sh_0 rfl (by decide) (rf_0_0 _) ?_
  refine u_getr fX10_72 dX10_lookAtHeight_4 sh_1 rfl (by decide) (rf_1_0 _) ?_
  refine v_astore dX10_lookAtHeight_7 (by decide) rfl ?_
  refine v_ls (ls2 := [some (.ref 0), some (.int a1), some (.int a2), some (.int a3), some (.ref 2), none, none]) rfl ?_
  refine v_aload dX10_lookAtHeight_9 rfl ?_
  refine v_iload_n dX10_lookAtHeight_11 rfl rfl ?_
  refine u_callV [.int a1] mX4_has iX4_has lX10_104 dX10_lookAtHeight_12 sh_2 rfl rfl (by decide) ⟨rfl, rfl, id⟩ rfl rfl (Nat.le_of_ble_eq_true rfl) (Nat.le_of_ble_eq_true rfl) (v_X4_has a1 _ _ h) ?_
  rintro _ τ2 ⟨r1, rfl, h⟩
  refine v_if_ne (tgt := 21) dX10_lookAtHeight_15 (by decide) (fun c3 => ?_) (fun c3 => ?_)
  · have h := h.1 c3
    refine v_aload dX10_lookAtHeight_21 rfl ?_
    refine v_iload_n dX10_lookAtHeight_23 rfl rfl ?_
    refine v_iload_n dX10_lookAtHeight_24 rfl rfl ?_
    refine u_callV [.int a1, .int a2] mX4_chamberFinding iX4_chamberFinding lX10_107 dX10_lookAtHeight_25 sh_2 rfl rfl (by decide) ⟨rfl, rfl, id⟩ rfl rfl (Nat.le_of_ble_eq_true rfl) (Nat.le_of_ble_eq_true rfl) (v_X4_chamberFinding a1 a2 _ _ h) ?_
    rintro _ τ5 ⟨r4, rfl, h⟩
    refine v_istore dX10_lookAtHeight_28 (by decide) rfl ?_
    refine v_ls (ls2 := [some (.ref 0), some (.int a1), some (.int a2), some (.int a3), some (.ref 2), some (.int r4), none]) rfl ?_
    refine v_iload dX10_lookAtHeight_30 rfl ?_
    refine v_if_eq (tgt := 38) dX10_lookAtHeight_32 (by decide) (fun c6 => ?_) (fun c6 => ?_)
    · have h := h.1 c6
      refine v_aload dX10_lookAtHeight_38 rfl ?_
      refine v_iload_n dX10_lookAtHeight_40 rfl rfl ?_
      refine v_iload_n dX10_lookAtHeight_41 rfl rfl ?_
      refine u_callV [.int a1, .int a2] mX4_heightsIn iX4_heightsIn lX10_110 dX10_lookAtHeight_42 sh_2 rfl rfl (by decide) ⟨rfl, rfl, id⟩ rfl rfl (Nat.le_of_ble_eq_true rfl) (Nat.le_of_ble_eq_true rfl) (v_X4_heightsIn a1 a2 _ _ h) ?_
      rintro _ τ8 ⟨r7, rfl, h⟩
      refine v_istore dX10_lookAtHeight_45 (by decide) rfl ?_
      refine v_ls (ls2 := [some (.ref 0), some (.int a1), some (.int a2), some (.int a3), some (.ref 2), some (.int r4), some (.int r7)]) rfl ?_
      refine v_iload dX10_lookAtHeight_47 rfl ?_
      refine v_if_ne (tgt := 57) dX10_lookAtHeight_49 (by decide) (fun c9 => ?_) (fun c9 => ?_)
      · have h := h.1 c9
        refine v_iload dX10_lookAtHeight_57 rfl ?_
        refine v_iload_n dX10_lookAtHeight_59 rfl rfl ?_
        refine u_callS [.int r7, .int a3] mX10_heightNumber sX10_heightNumber lX10_129 dX10_lookAtHeight_60 ⟨rfl, rfl, id⟩ rfl rfl (Nat.le_of_ble_eq_true rfl) (Nat.le_of_ble_eq_true rfl) (v_X10_heightNumber r7 a3 _ _ h) ?_
        rintro _ τ11 ⟨r10, rfl, h⟩
        exact u_iret dX10_lookAtHeight_63 ⟨rfl, id⟩ h
      · have h := h.2 c9
        refine v_bipush (v := -11) dX10_lookAtHeight_52 (by decide) ?_
        refine v_goto (tgt := 63) dX10_lookAtHeight_54 (by decide) ?_
        exact u_iret dX10_lookAtHeight_63 ⟨rfl, id⟩ h
    · have h := h.2 c6
      refine v_iload dX10_lookAtHeight_35 rfl ?_
      exact u_iret dX10_lookAtHeight_37 ⟨rfl, id⟩ h
  · have h := h.2 c3
    refine v_bipush (v := -2) dX10_lookAtHeight_18 (by decide) ?_
    exact u_iret dX10_lookAtHeight_20 ⟨rfl, id⟩ h
def T_X10_heightAt (a1 : Int32) (a2 : Int32) (a3 : Int32) (τ : kT) (post : Int32 → kT → Prop) : Prop := (T_X10_lookAtHeight a1 a2 a3 τ (fun r1 τ2 => (T_X10_settle r1 τ2 (fun r3 τ4 => post r3 τ4))))
set_option maxRecDepth 100000 in
set_option maxHeartbeats 4000000 in
theorem v_X10_heightAt {d : Nat}  (a1 : Int32) (a2 : Int32) (a3 : Int32) (τ : kT) (post : Int32 → kT → Prop) (h : T_X10_heightAt  a1 a2 a3 τ post) : U yX10_heightAt cX10_heightAt 4 (some .int) (d + 5) kE0 0 [some (.ref 0), some (.int a1), some (.int a2), some (.int a3)] [] τ (k_pi post) := by
  unfold T_X10_heightAt at h
  refine v_aload_n dX10_heightAt_0 rfl rfl ?_
  refine v_aload_n dX10_heightAt_1 rfl rfl ?_
  refine v_iload_n dX10_heightAt_2 rfl rfl ?_
  refine v_iload_n dX10_heightAt_3 rfl rfl ?_
  refine v_iload_n dX10_heightAt_4 rfl rfl ?_
  refine u_callV [.int a1, .int a2, .int a3] mX10_lookAtHeight iX10_lookAtHeight lX10_125 dX10_heightAt_5 sh_0 rfl rfl (by decide) ⟨rfl, rfl, id⟩ rfl rfl (Nat.le_of_ble_eq_true rfl) (Nat.le_of_ble_eq_true rfl) (v_X10_lookAtHeight a1 a2 a3 _ _ h) ?_
  rintro _ τ2 ⟨r1, rfl, h⟩
  refine u_callV [.int r1] mX10_settle iX10_settle lX10_68 dX10_heightAt_8 sh_0 rfl rfl (by decide) ⟨rfl, rfl, id⟩ rfl rfl (Nat.le_of_ble_eq_true rfl) (Nat.le_of_ble_eq_true rfl) (v_X10_settle r1 _ _ h) ?_
  rintro _ τ4 ⟨r3, rfl, h⟩
  exact u_iret dX10_heightAt_11 ⟨rfl, id⟩ h
def T_X4_isCore (a1 : Int32) (τ : kT) (post : Int32 → kT → Prop) : Prop := (T_X4_has a1 τ (fun r1 τ2 => ((r1 = 0 → post (0 : Int32) τ2) ∧ (¬ r1 = 0 → (∃ j4 : Nat, a1 = nI j4 ∧ j4 < 100 ∧ ((¬ (q_i τ2 3 j4) = (2 : Int32) → post (0 : Int32) τ2) ∧ ((q_i τ2 3 j4) = (2 : Int32) → post (1 : Int32) τ2)))))))
set_option maxRecDepth 100000 in
set_option maxHeartbeats 4000000 in
theorem v_X4_isCore {d : Nat}  (a1 : Int32) (τ : kT) (post : Int32 → kT → Prop) (h : T_X4_isCore  a1 τ post) : U yX4_isCore cX4_isCore 2 (some .boolean) (d + 1) kE0 0 [some (.ref 2), some (.int a1)] [] τ (k_pi post) := by
  unfold T_X4_isCore at h
  refine v_aload_n dX4_isCore_0 rfl rfl ?_
  refine v_iload_n dX4_isCore_1 rfl rfl ?_
  refine u_callV [.int a1] mX4_has iX4_has lX4_37 dX4_isCore_2 sh_2 rfl rfl (by decide) ⟨rfl, rfl, id⟩ rfl rfl (Nat.le_of_ble_eq_true rfl) (Nat.le_of_ble_eq_true rfl) (v_X4_has a1 _ _ h) ?_
  rintro _ τ2 ⟨r1, rfl, h⟩
  refine v_if_eq (tgt := 22) dX4_isCore_5 (by decide) (fun c3 => ?_) (fun c3 => ?_)
  · have h := h.1 c3
    refine v_iconst (v := 0) dX4_isCore_22 (by decide) ?_
    exact u_zret dX4_isCore_23 rfl ⟨rfl, id⟩ h
  · have h := h.2 c3
    refine v_aload_n dX4_isCore_8 rfl rfl ?_
    refine u_getr fX4_9 dX4_isCore_9 sh_2 rfl (by decide) (rf_2_0 _) ?_
    refine v_iload_n dX4_isCore_12 rfl rfl ?_
    obtain ⟨j4, e_j4, l_j4, h⟩ := h
    refine u_iald dX4_isCore_13 sh_3 (by decide) (by decide) e_j4 l_j4 ?_
    refine v_iconst (v := 2) dX4_isCore_14 (by decide) ?_
    refine v_icmp_ne (tgt := 22) dX4_isCore_15 (by decide) (fun c5 => ?_) (fun c5 => ?_)
    · have h := h.1 c5
      refine v_iconst (v := 0) dX4_isCore_22 (by decide) ?_
      exact u_zret dX4_isCore_23 rfl ⟨rfl, id⟩ h
    · have h := h.2 c5
      refine v_iconst (v := 1) dX4_isCore_18 (by decide) ?_
      refine v_goto (tgt := 23) dX4_isCore_19 (by decide) ?_
      exact u_zret dX4_isCore_23 rfl ⟨rfl, id⟩ h
def T_X4_rowToTray (a1 : Int32) (τ : kT) (post : Int32 → kT → Prop) : Prop := (∃ j1 : Nat, a1 = nI j1 ∧ j1 < 100 ∧ (∃ j2 j3 j4 : Nat, (a1 * (18 : Int32)) = nI j2 ∧ (0 : Int32) = nI j3 ∧ (q_i τ 4 j1) = nI j4 ∧ j2 + j4 ≤ 1800 ∧ j3 + j4 ≤ 18 ∧ ∀ τ5 : kT, τ5 = q_wi τ 8 (va_cpy (q_i τ 5) (q_i τ 8) j2 j3 j4) → (∃ j6 : Nat, a1 = nI j6 ∧ j6 < 100 ∧ (∀ τ7 : kT, τ7 = q_si τ5 2 6 (q_i τ5 4 j6) → (∃ j8 : Nat, a1 = nI j8 ∧ j8 < 100 ∧ (∀ τ9 : kT, τ9 = q_si τ7 4 j8 (-1 : Int32) → post (q_i τ9 2 6) τ9))))))
set_option maxRecDepth 100000 in
set_option maxHeartbeats 4000000 in
theorem v_X4_rowToTray {d : Nat}  (a1 : Int32) (τ : kT) (post : Int32 → kT → Prop) (h : T_X4_rowToTray  a1 τ post) : U yX4_rowToTray cX4_rowToTray 2 (some .int) (d + 1) kE0 0 [some (.ref 2), some (.int a1)] [] τ (k_pi post) := by
  unfold T_X4_rowToTray at h
  refine v_aload_n dX4_rowToTray_0 rfl rfl ?_
  refine u_getr fX4_18 dX4_rowToTray_1 sh_2 rfl (by decide) (rf_2_2 _) ?_
  refine v_iload_n dX4_rowToTray_4 rfl rfl ?_
  refine v_bipush (v := 18) dX4_rowToTray_5 (by decide) ?_
  refine v_imul dX4_rowToTray_7 ?_
  refine v_aload_n dX4_rowToTray_8 rfl rfl ?_
  refine u_getr fX4_34 dX4_rowToTray_9 sh_2 rfl (by decide) (rf_2_7 _) ?_
  refine v_iconst (v := 0) dX4_rowToTray_12 (by decide) ?_
  refine v_aload_n dX4_rowToTray_13 rfl rfl ?_
  refine u_getr fX4_15 dX4_rowToTray_14 sh_2 rfl (by decide) (rf_2_1 _) ?_
  refine v_iload_n dX4_rowToTray_17 rfl rfl ?_
  obtain ⟨j1, e_j1, l_j1, h⟩ := h
  refine u_iald dX4_rowToTray_18 sh_4 (by decide) (by decide) e_j1 l_j1 ?_
  obtain ⟨j2, j3, j4, e_1, e_2, e_3, e_4, e_5, h⟩ := h
  refine u_copyi id aX4_69 dX4_rowToTray_19 sh_5 sh_8 (by decide) (by decide) (by decide) (by decide) (Nat.le_of_ble_eq_true rfl) e_1 e_2 e_3 e_4 e_5 (fun τ5 e_τ5 => ?_)
  have h := h τ5 e_τ5
  refine v_aload_n dX4_rowToTray_22 rfl rfl ?_
  refine v_aload_n dX4_rowToTray_23 rfl rfl ?_
  refine u_getr fX4_15 dX4_rowToTray_24 sh_2 rfl (by decide) (rf_2_1 _) ?_
  refine v_iload_n dX4_rowToTray_27 rfl rfl ?_
  obtain ⟨j6, e_j6, l_j6, h⟩ := h
  refine u_iald dX4_rowToTray_28 sh_4 (by decide) (by decide) e_j6 l_j6 ?_
  refine u_puti pX4_31 ⟨_, rfl⟩ dX4_rowToTray_29 sh_2 rfl (by decide) (by decide) (fun τ7 e_τ7 => ?_)
  have h := h τ7 e_τ7
  refine v_aload_n dX4_rowToTray_32 rfl rfl ?_
  refine u_getr fX4_15 dX4_rowToTray_33 sh_2 rfl (by decide) (rf_2_1 _) ?_
  refine v_iload_n dX4_rowToTray_36 rfl rfl ?_
  refine v_iconst (v := -1) dX4_rowToTray_37 (by decide) ?_
  obtain ⟨j8, e_j8, l_j8, h⟩ := h
  refine u_iast dX4_rowToTray_38 sh_4 (by decide) (by decide) e_j8 l_j8 (fun τ9 e_τ9 => ?_)
  have h := h τ9 e_τ9
  refine v_aload_n dX4_rowToTray_39 rfl rfl ?_
  refine u_geti fX4_31 dX4_rowToTray_40 sh_2 rfl (by decide) ?_
  exact u_iret dX4_rowToTray_43 ⟨rfl, id⟩ h
def T_X10_coreToTray (a1 : Int32) (τ : kT) (post : Int32 → kT → Prop) : Prop := (T_X4_has a1 τ (fun r1 τ2 => ((¬ r1 = 0 → (T_X4_isCore a1 τ2 (fun r4 τ5 => ((¬ r4 = 0 → (T_X4_isOut a1 τ5 (fun r7 τ8 => ((r7 = 0 → (T_X10_remember  τ8 (fun τ11 => (T_X4_rowToTray a1 τ11 (fun r12 τ13 => post r12 τ13))))) ∧ (¬ r7 = 0 → post (-11 : Int32) τ8))))) ∧ (r4 = 0 → post (-13 : Int32) τ5))))) ∧ (r1 = 0 → post (-2 : Int32) τ2))))
set_option maxRecDepth 100000 in
set_option maxHeartbeats 4000000 in
theorem v_X10_coreToTray {d : Nat}  (a1 : Int32) (τ : kT) (post : Int32 → kT → Prop) (h : T_X10_coreToTray  a1 τ post) : U yX10_coreToTray cX10_coreToTray 3 (some .int) (d + 4) kE0 0 [some (.ref 0), some (.int a1), none] [] τ (k_pi post) := by
  unfold T_X10_coreToTray at h
  refine v_aload_n dX10_coreToTray_0 rfl rfl ?_
  refine u_getr fX10_10 dX10_coreToTray_1 sh_0 rfl (by decide) (rf_0_0 _) ?_
  refine u_getr fX10_72 dX10_coreToTray_4 sh_1 rfl (by decide) (rf_1_0 _) ?_
  refine v_astore_n dX10_coreToTray_7 rfl (by decide) rfl ?_
  refine v_ls (ls2 := [some (.ref 0), some (.int a1), some (.ref 2)]) rfl ?_
  refine v_aload_n dX10_coreToTray_8 rfl rfl ?_
  refine v_iload_n dX10_coreToTray_9 rfl rfl ?_
  refine u_callV [.int a1] mX4_has iX4_has lX10_104 dX10_coreToTray_10 sh_2 rfl rfl (by decide) ⟨rfl, rfl, id⟩ rfl rfl (Nat.le_of_ble_eq_true rfl) (Nat.le_of_ble_eq_true rfl) (v_X4_has a1 _ _ h) ?_
  rintro _ τ2 ⟨r1, rfl, h⟩
  refine v_if_ne (tgt := 19) dX10_coreToTray_13 (by decide) (fun c3 => ?_) (fun c3 => ?_)
  · have h := h.1 c3
    refine v_aload_n dX10_coreToTray_19 rfl rfl ?_
    refine v_iload_n dX10_coreToTray_20 rfl rfl ?_
    refine u_callV [.int a1] mX4_isCore iX4_isCore lX10_135 dX10_coreToTray_21 sh_2 rfl rfl (by decide) ⟨rfl, rfl, id⟩ rfl rfl (Nat.le_of_ble_eq_true rfl) (Nat.le_of_ble_eq_true rfl) (v_X4_isCore a1 _ _ h) ?_
    rintro _ τ5 ⟨r4, rfl, h⟩
    refine v_if_ne (tgt := 30) dX10_coreToTray_24 (by decide) (fun c6 => ?_) (fun c6 => ?_)
    · have h := h.1 c6
      refine v_aload_n dX10_coreToTray_30 rfl rfl ?_
      refine v_iload_n dX10_coreToTray_31 rfl rfl ?_
      refine u_callV [.int a1] mX4_isOut iX4_isOut lX10_138 dX10_coreToTray_32 sh_2 rfl rfl (by decide) ⟨rfl, rfl, id⟩ rfl rfl (Nat.le_of_ble_eq_true rfl) (Nat.le_of_ble_eq_true rfl) (v_X4_isOut a1 _ _ h) ?_
      rintro _ τ8 ⟨r7, rfl, h⟩
      refine v_if_eq (tgt := 41) dX10_coreToTray_35 (by decide) (fun c9 => ?_) (fun c9 => ?_)
      · have h := h.1 c9
        refine v_aload_n dX10_coreToTray_41 rfl rfl ?_
        refine u_callV [] mX10_remember iX10_remember lX10_81 dX10_coreToTray_42 sh_0 rfl rfl (by decide) ⟨rfl, rfl, id⟩ rfl rfl (Nat.le_of_ble_eq_true rfl) (Nat.le_of_ble_eq_true rfl) (v_X10_remember  _ _ h) ?_
        rintro _ τ11 ⟨rfl, h⟩
        refine v_aload_n dX10_coreToTray_45 rfl rfl ?_
        refine v_iload_n dX10_coreToTray_46 rfl rfl ?_
        refine u_callV [.int a1] mX4_rowToTray iX4_rowToTray lX10_141 dX10_coreToTray_47 sh_2 rfl rfl (by decide) ⟨rfl, rfl, id⟩ rfl rfl (Nat.le_of_ble_eq_true rfl) (Nat.le_of_ble_eq_true rfl) (v_X4_rowToTray a1 _ _ h) ?_
        rintro _ τ13 ⟨r12, rfl, h⟩
        exact u_iret dX10_coreToTray_50 ⟨rfl, id⟩ h
      · have h := h.2 c9
        refine v_bipush (v := -11) dX10_coreToTray_38 (by decide) ?_
        exact u_iret dX10_coreToTray_40 ⟨rfl, id⟩ h
    · have h := h.2 c6
      refine v_bipush (v := -13) dX10_coreToTray_27 (by decide) ?_
      exact u_iret dX10_coreToTray_29 ⟨rfl, id⟩ h
  · have h := h.2 c3
    refine v_bipush (v := -2) dX10_coreToTray_16 (by decide) ?_
    exact u_iret dX10_coreToTray_18 ⟨rfl, id⟩ h
def T_X10_takeCore (a1 : Int32) (τ : kT) (post : Int32 → kT → Prop) : Prop := (T_X10_coreToTray a1 τ (fun r1 τ2 => (T_X10_settle r1 τ2 (fun r3 τ4 => post r3 τ4))))
set_option maxRecDepth 100000 in
set_option maxHeartbeats 4000000 in
theorem v_X10_takeCore {d : Nat}  (a1 : Int32) (τ : kT) (post : Int32 → kT → Prop) (h : T_X10_takeCore  a1 τ post) : U yX10_takeCore cX10_takeCore 2 (some .int) (d + 5) kE0 0 [some (.ref 0), some (.int a1)] [] τ (k_pi post) := by
  unfold T_X10_takeCore at h
  refine v_aload_n dX10_takeCore_0 rfl rfl ?_
  refine v_aload_n dX10_takeCore_1 rfl rfl ?_
  refine v_iload_n dX10_takeCore_2 rfl rfl ?_
  refine u_callV [.int a1] mX10_coreToTray iX10_coreToTray lX10_132 dX10_takeCore_3 sh_0 rfl rfl (by decide) ⟨rfl, rfl, id⟩ rfl rfl (Nat.le_of_ble_eq_true rfl) (Nat.le_of_ble_eq_true rfl) (v_X10_coreToTray a1 _ _ h) ?_
  rintro _ τ2 ⟨r1, rfl, h⟩
  refine u_callV [.int r1] mX10_settle iX10_settle lX10_68 dX10_takeCore_6 sh_0 rfl rfl (by decide) ⟨rfl, rfl, id⟩ rfl rfl (Nat.le_of_ble_eq_true rfl) (Nat.le_of_ble_eq_true rfl) (v_X10_settle r1 _ _ h) ?_
  rintro _ τ4 ⟨r3, rfl, h⟩
  exact u_iret dX10_takeCore_9 ⟨rfl, id⟩ h
def T_X4_rowFromTray (a1 : Int32) (τ : kT) (post : Int32 → kT → Prop) : Prop := (∃ j1 j2 j3 : Nat, (0 : Int32) = nI j1 ∧ (a1 * (18 : Int32)) = nI j2 ∧ (q_i τ 2 6) = nI j3 ∧ j1 + j3 ≤ 18 ∧ j2 + j3 ≤ 1800 ∧ ∀ τ4 : kT, τ4 = q_wi τ 5 (va_cpy (q_i τ 8) (q_i τ 5) j1 j2 j3) → (∃ j5 : Nat, a1 = nI j5 ∧ j5 < 100 ∧ (∀ τ6 : kT, τ6 = q_si τ4 4 j5 (q_i τ4 2 6) → (∀ τ7 : kT, τ7 = q_si τ6 2 6 (-1 : Int32) → (∃ j8 : Nat, a1 = nI j8 ∧ j8 < 100 ∧ post (q_i τ7 4 j8) τ7)))))
set_option maxRecDepth 100000 in
set_option maxHeartbeats 4000000 in
theorem v_X4_rowFromTray {d : Nat}  (a1 : Int32) (τ : kT) (post : Int32 → kT → Prop) (h : T_X4_rowFromTray  a1 τ post) : U yX4_rowFromTray cX4_rowFromTray 2 (some .int) (d + 1) kE0 0 [some (.ref 2), some (.int a1)] [] τ (k_pi post) := by
  unfold T_X4_rowFromTray at h
  refine v_aload_n dX4_rowFromTray_0 rfl rfl ?_
  refine u_getr fX4_34 dX4_rowFromTray_1 sh_2 rfl (by decide) (rf_2_7 _) ?_
  refine v_iconst (v := 0) dX4_rowFromTray_4 (by decide) ?_
  refine v_aload_n dX4_rowFromTray_5 rfl rfl ?_
  refine u_getr fX4_18 dX4_rowFromTray_6 sh_2 rfl (by decide) (rf_2_2 _) ?_
  refine v_iload_n dX4_rowFromTray_9 rfl rfl ?_
  refine v_bipush (v := 18) dX4_rowFromTray_10 (by decide) ?_
  refine v_imul dX4_rowFromTray_12 ?_
  refine v_aload_n dX4_rowFromTray_13 rfl rfl ?_
  refine u_geti fX4_31 dX4_rowFromTray_14 sh_2 rfl (by decide) ?_
  obtain ⟨j1, j2, j3, e_1, e_2, e_3, e_4, e_5, h⟩ := h
  refine u_copyi id aX4_69 dX4_rowFromTray_17 sh_8 sh_5 (by decide) (by decide) (by decide) (by decide) (Nat.le_of_ble_eq_true rfl) e_1 e_2 e_3 e_4 e_5 (fun τ4 e_τ4 => ?_)
  have h := h τ4 e_τ4
  refine v_aload_n dX4_rowFromTray_20 rfl rfl ?_
  refine u_getr fX4_15 dX4_rowFromTray_21 sh_2 rfl (by decide) (rf_2_1 _) ?_
  refine v_iload_n dX4_rowFromTray_24 rfl rfl ?_
  refine v_aload_n dX4_rowFromTray_25 rfl rfl ?_
  refine u_geti fX4_31 dX4_rowFromTray_26 sh_2 rfl (by decide) ?_
  obtain ⟨j5, e_j5, l_j5, h⟩ := h
  refine u_iast dX4_rowFromTray_29 sh_4 (by decide) (by decide) e_j5 l_j5 (fun τ6 e_τ6 => ?_)
  have h := h τ6 e_τ6
  refine v_aload_n dX4_rowFromTray_30 rfl rfl ?_
  refine v_iconst (v := -1) dX4_rowFromTray_31 (by decide) ?_
  refine u_puti pX4_31 ⟨_, rfl⟩ dX4_rowFromTray_32 sh_2 rfl (by decide) (by decide) (fun τ7 e_τ7 => ?_)
  have h := h τ7 e_τ7
  refine v_aload_n dX4_rowFromTray_35 rfl rfl ?_
  refine u_getr fX4_15 dX4_rowFromTray_36 sh_2 rfl (by decide) (rf_2_1 _) ?_
  refine v_iload_n dX4_rowFromTray_39 rfl rfl ?_
  obtain ⟨j8, e_j8, l_j8, h⟩ := h
  refine u_iald dX4_rowFromTray_40 sh_4 (by decide) (by decide) e_j8 l_j8 ?_
  exact u_iret dX4_rowFromTray_41 ⟨rfl, id⟩ h
def T_X10_trayToCore (a1 : Int32) (τ : kT) (post : Int32 → kT → Prop) : Prop := (T_X4_has a1 τ (fun r1 τ2 => ((¬ r1 = 0 → (T_X4_isCore a1 τ2 (fun r4 τ5 => ((¬ r4 = 0 → (T_X4_isOut a1 τ5 (fun r7 τ8 => ((¬ r7 = 0 → ((¬ (q_i τ8 2 6) = (-1 : Int32) → (T_X10_remember  τ8 (fun τ12 => (T_X4_rowFromTray a1 τ12 (fun r13 τ14 => post r13 τ14))))) ∧ ((q_i τ8 2 6) = (-1 : Int32) → post (-11 : Int32) τ8))) ∧ (r7 = 0 → post (-3 : Int32) τ8))))) ∧ (r4 = 0 → post (-13 : Int32) τ5))))) ∧ (r1 = 0 → post (-2 : Int32) τ2))))
set_option maxRecDepth 100000 in
set_option maxHeartbeats 4000000 in
theorem v_X10_trayToCore {d : Nat}  (a1 : Int32) (τ : kT) (post : Int32 → kT → Prop) (h : T_X10_trayToCore  a1 τ post) : U yX10_trayToCore cX10_trayToCore 3 (some .int) (d + 4) kE0 0 [some (.ref 0), some (.int a1), none] [] τ (k_pi post) := by
  unfold T_X10_trayToCore at h
  refine v_aload_n dX10_trayToCore_0 rfl rfl ?_
  refine u_getr fX10_10 dX10_trayToCore_1 sh_0 rfl (by decide) (rf_0_0 _) ?_
  refine u_getr fX10_72 dX10_trayToCore_4 sh_1 rfl (by decide) (rf_1_0 _) ?_
  refine v_astore_n dX10_trayToCore_7 rfl (by decide) rfl ?_
  refine v_ls (ls2 := [some (.ref 0), some (.int a1), some (.ref 2)]) rfl ?_
  refine v_aload_n dX10_trayToCore_8 rfl rfl ?_
  refine v_iload_n dX10_trayToCore_9 rfl rfl ?_
  refine u_callV [.int a1] mX4_has iX4_has lX10_104 dX10_trayToCore_10 sh_2 rfl rfl (by decide) ⟨rfl, rfl, id⟩ rfl rfl (Nat.le_of_ble_eq_true rfl) (Nat.le_of_ble_eq_true rfl) (v_X4_has a1 _ _ h) ?_
  rintro _ τ2 ⟨r1, rfl, h⟩
  refine v_if_ne (tgt := 19) dX10_trayToCore_13 (by decide) (fun c3 => ?_) (fun c3 => ?_)
  · have h := h.1 c3
    refine v_aload_n dX10_trayToCore_19 rfl rfl ?_
    refine v_iload_n dX10_trayToCore_20 rfl rfl ?_
    refine u_callV [.int a1] mX4_isCore iX4_isCore lX10_135 dX10_trayToCore_21 sh_2 rfl rfl (by decide) ⟨rfl, rfl, id⟩ rfl rfl (Nat.le_of_ble_eq_true rfl) (Nat.le_of_ble_eq_true rfl) (v_X4_isCore a1 _ _ h) ?_
    rintro _ τ5 ⟨r4, rfl, h⟩
    refine v_if_ne (tgt := 30) dX10_trayToCore_24 (by decide) (fun c6 => ?_) (fun c6 => ?_)
    · have h := h.1 c6
      refine v_aload_n dX10_trayToCore_30 rfl rfl ?_
      refine v_iload_n dX10_trayToCore_31 rfl rfl ?_
      refine u_callV [.int a1] mX4_isOut iX4_isOut lX10_138 dX10_trayToCore_32 sh_2 rfl rfl (by decide) ⟨rfl, rfl, id⟩ rfl rfl (Nat.le_of_ble_eq_true rfl) (Nat.le_of_ble_eq_true rfl) (v_X4_isOut a1 _ _ h) ?_
      rintro _ τ8 ⟨r7, rfl, h⟩
      refine v_if_ne (tgt := 41) dX10_trayToCore_35 (by decide) (fun c9 => ?_) (fun c9 => ?_)
      · have h := h.1 c9
        refine v_aload_n dX10_trayToCore_41 rfl rfl ?_
        refine u_geti fX10_147 dX10_trayToCore_42 sh_2 rfl (by decide) ?_
        refine v_iconst (v := -1) dX10_trayToCore_45 (by decide) ?_
        refine v_icmp_ne (tgt := 52) dX10_trayToCore_46 (by decide) (fun c10 => ?_) (fun c10 => ?_)
        · have h := h.1 c10
          refine v_aload_n dX10_trayToCore_52 rfl rfl ?_
          refine u_callV [] mX10_remember iX10_remember lX10_81 dX10_trayToCore_53 sh_0 rfl rfl (by decide) ⟨rfl, rfl, id⟩ rfl rfl (Nat.le_of_ble_eq_true rfl) (Nat.le_of_ble_eq_true rfl) (v_X10_remember  _ _ h) ?_
          rintro _ τ12 ⟨rfl, h⟩
          refine v_aload_n dX10_trayToCore_56 rfl rfl ?_
          refine v_iload_n dX10_trayToCore_57 rfl rfl ?_
          refine u_callV [.int a1] mX4_rowFromTray iX4_rowFromTray lX10_150 dX10_trayToCore_58 sh_2 rfl rfl (by decide) ⟨rfl, rfl, id⟩ rfl rfl (Nat.le_of_ble_eq_true rfl) (Nat.le_of_ble_eq_true rfl) (v_X4_rowFromTray a1 _ _ h) ?_
          rintro _ τ14 ⟨r13, rfl, h⟩
          exact u_iret dX10_trayToCore_61 ⟨rfl, id⟩ h
        · have h := h.2 c10
          refine v_bipush (v := -11) dX10_trayToCore_49 (by decide) ?_
          exact u_iret dX10_trayToCore_51 ⟨rfl, id⟩ h
      · have h := h.2 c9
        refine v_bipush (v := -3) dX10_trayToCore_38 (by decide) ?_
        exact u_iret dX10_trayToCore_40 ⟨rfl, id⟩ h
    · have h := h.2 c6
      refine v_bipush (v := -13) dX10_trayToCore_27 (by decide) ?_
      exact u_iret dX10_trayToCore_29 ⟨rfl, id⟩ h
  · have h := h.2 c3
    refine v_bipush (v := -2) dX10_trayToCore_16 (by decide) ?_
    exact u_iret dX10_trayToCore_18 ⟨rfl, id⟩ h
def T_X10_putCore (a1 : Int32) (τ : kT) (post : Int32 → kT → Prop) : Prop := (T_X10_trayToCore a1 τ (fun r1 τ2 => (T_X10_settle r1 τ2 (fun r3 τ4 => post r3 τ4))))
set_option maxRecDepth 100000 in
set_option maxHeartbeats 4000000 in
theorem v_X10_putCore {d : Nat}  (a1 : Int32) (τ : kT) (post : Int32 → kT → Prop) (h : T_X10_putCore  a1 τ post) : U yX10_putCore cX10_putCore 2 (some .int) (d + 5) kE0 0 [some (.ref 0), some (.int a1)] [] τ (k_pi post) := by
  unfold T_X10_putCore at h
  refine v_aload_n dX10_putCore_0 rfl rfl ?_
  refine v_aload_n dX10_putCore_1 rfl rfl ?_
  refine v_iload_n dX10_putCore_2 rfl rfl ?_
  refine u_callV [.int a1] mX10_trayToCore iX10_trayToCore lX10_144 dX10_putCore_3 sh_0 rfl rfl (by decide) ⟨rfl, rfl, id⟩ rfl rfl (Nat.le_of_ble_eq_true rfl) (Nat.le_of_ble_eq_true rfl) (v_X10_trayToCore a1 _ _ h) ?_
  rintro _ τ2 ⟨r1, rfl, h⟩
  refine u_callV [.int r1] mX10_settle iX10_settle lX10_68 dX10_putCore_6 sh_0 rfl rfl (by decide) ⟨rfl, rfl, id⟩ rfl rfl (Nat.le_of_ble_eq_true rfl) (Nat.le_of_ble_eq_true rfl) (v_X10_settle r1 _ _ h) ?_
  rintro _ τ4 ⟨r3, rfl, h⟩
  exact u_iret dX10_putCore_9 ⟨rfl, id⟩ h
def T_X10_kind (a1 : Int32) (τ : kT) (post : Int32 → kT → Prop) : Prop := (T_X4_has a1 τ (fun r1 τ2 => ((r1 = 0 → post (-2 : Int32) τ2) ∧ (¬ r1 = 0 → (∃ j4 : Nat, a1 = nI j4 ∧ j4 < 100 ∧ post (q_i τ2 3 j4) τ2)))))
set_option maxRecDepth 100000 in
set_option maxHeartbeats 4000000 in
theorem v_X10_kind {d : Nat}  (a1 : Int32) (τ : kT) (post : Int32 → kT → Prop) (h : T_X10_kind  a1 τ post) : U yX10_kind cX10_kind 2 (some .int) (d + 1) kE0 0 [some (.ref 0), some (.int a1)] [] τ (k_pi post) := by
  unfold T_X10_kind at h
  refine v_aload_n dX10_kind_0 rfl rfl ?_
  refine u_getr fX10_10 dX10_kind_1 sh_0 rfl (by decide) (rf_0_0 _) ?_
  refine u_getr fX10_72 dX10_kind_4 sh_1 rfl (by decide) (rf_1_0 _) ?_
  refine v_iload_n dX10_kind_7 rfl rfl ?_
  refine u_callV [.int a1] mX4_has iX4_has lX10_104 dX10_kind_8 sh_2 rfl rfl (by decide) ⟨rfl, rfl, id⟩ rfl rfl (Nat.le_of_ble_eq_true rfl) (Nat.le_of_ble_eq_true rfl) (v_X4_has a1 _ _ h) ?_
  rintro _ τ2 ⟨r1, rfl, h⟩
  refine v_if_eq (tgt := 29) dX10_kind_11 (by decide) (fun c3 => ?_) (fun c3 => ?_)
  · have h := h.1 c3
    refine v_bipush (v := -2) dX10_kind_29 (by decide) ?_
    exact u_iret dX10_kind_31 ⟨rfl, id⟩ h
  · have h := h.2 c3
    refine v_aload_n dX10_kind_14 rfl rfl ?_
    refine u_getr fX10_10 dX10_kind_15 sh_0 rfl (by decide) (rf_0_0 _) ?_
    refine u_getr fX10_72 dX10_kind_18 sh_1 rfl (by decide) (rf_1_0 _) ?_
    refine u_getr fX10_153 dX10_kind_21 sh_2 rfl (by decide) (rf_2_0 _) ?_
    refine v_iload_n dX10_kind_24 rfl rfl ?_
    obtain ⟨j4, e_j4, l_j4, h⟩ := h
    refine u_iald dX10_kind_25 sh_3 (by decide) (by decide) e_j4 l_j4 ?_
    refine v_goto (tgt := 31) dX10_kind_26 (by decide) ?_
    exact u_iret dX10_kind_31 ⟨rfl, id⟩ h
def T_X10_chambers (a1 : Int32) (τ : kT) (post : Int32 → kT → Prop) : Prop := (T_X4_has a1 τ (fun r1 τ2 => ((¬ r1 = 0 → (T_X4_rowFinding a1 τ2 (fun r4 τ5 => ((r4 = 0 → (∃ j7 : Nat, a1 = nI j7 ∧ j7 < 100 ∧ (T_X10_settle (q_i τ5 4 j7) τ5 (fun r8 τ9 => post r8 τ9)))) ∧ (¬ r4 = 0 → (T_X10_settle r4 τ5 (fun r10 τ11 => post r10 τ11))))))) ∧ (r1 = 0 → post (-2 : Int32) τ2))))
set_option maxRecDepth 100000 in
set_option maxHeartbeats 4000000 in
theorem v_X10_chambers {d : Nat}  (a1 : Int32) (τ : kT) (post : Int32 → kT → Prop) (h : T_X10_chambers  a1 τ post) : U yX10_chambers cX10_chambers 3 (some .int) (d + 3) kE0 0 [some (.ref 0), some (.int a1), none] [] τ (k_pi post) := by
  unfold T_X10_chambers at h
  refine v_aload_n dX10_chambers_0 rfl rfl ?_
  refine u_getr fX10_10 dX10_chambers_1 sh_0 rfl (by decide) (rf_0_0 _) ?_
  refine u_getr fX10_72 dX10_chambers_4 sh_1 rfl (by decide) (rf_1_0 _) ?_
  refine v_iload_n dX10_chambers_7 rfl rfl ?_
  refine u_callV [.int a1] mX4_has iX4_has lX10_104 dX10_chambers_8 sh_2 rfl rfl (by decide) ⟨rfl, rfl, id⟩ rfl rfl (Nat.le_of_ble_eq_true rfl) (Nat.le_of_ble_eq_true rfl) (v_X4_has a1 _ _ h) ?_
  rintro _ τ2 ⟨r1, rfl, h⟩
  refine v_if_ne (tgt := 17) dX10_chambers_11 (by decide) (fun c3 => ?_) (fun c3 => ?_)
  · have h := h.1 c3
    refine v_aload_n dX10_chambers_17 rfl rfl ?_
    refine u_getr fX10_10 dX10_chambers_18 sh_0 rfl (by decide) (rf_0_0 _) ?_
    refine u_getr fX10_72 dX10_chambers_21 sh_1 rfl (by decide) (rf_1_0 _) ?_
    refine v_iload_n dX10_chambers_24 rfl rfl ?_
    refine u_callV [.int a1] mX4_rowFinding iX4_rowFinding lX10_157 dX10_chambers_25 sh_2 rfl rfl (by decide) ⟨rfl, rfl, id⟩ rfl rfl (Nat.le_of_ble_eq_true rfl) (Nat.le_of_ble_eq_true rfl) (v_X4_rowFinding a1 _ _ h) ?_
    rintro _ τ5 ⟨r4, rfl, h⟩
    refine v_istore_n dX10_chambers_28 rfl (by decide) rfl ?_
    refine v_ls (ls2 := [some (.ref 0), some (.int a1), some (.int r4)]) rfl ?_
    refine v_aload_n dX10_chambers_29 rfl rfl ?_
    refine v_iload_n dX10_chambers_30 rfl rfl ?_
    refine v_if_eq (tgt := 38) dX10_chambers_31 (by decide) (fun c6 => ?_) (fun c6 => ?_)
    · have h := h.1 c6
      refine v_aload_n dX10_chambers_38 rfl rfl ?_
      refine u_getr fX10_10 dX10_chambers_39 sh_0 rfl (by decide) (rf_0_0 _) ?_
      refine u_getr fX10_72 dX10_chambers_42 sh_1 rfl (by decide) (rf_1_0 _) ?_
      refine u_getr fX10_160 dX10_chambers_45 sh_2 rfl (by decide) (rf_2_1 _) ?_
      refine v_iload_n dX10_chambers_48 rfl rfl ?_
      obtain ⟨j7, e_j7, l_j7, h⟩ := h
      refine u_iald dX10_chambers_49 sh_4 (by decide) (by decide) e_j7 l_j7 ?_
      refine u_callV [.int (q_i τ5 4 j7)] mX10_settle iX10_settle lX10_68 dX10_chambers_50 sh_0 rfl rfl (by decide) ⟨rfl, rfl, id⟩ rfl rfl (Nat.le_of_ble_eq_true rfl) (Nat.le_of_ble_eq_true rfl) (v_X10_settle (q_i τ5 4 j7) _ _ h) ?_
      rintro _ τ9 ⟨r8, rfl, h⟩
      exact u_iret dX10_chambers_53 ⟨rfl, id⟩ h
    · have h := h.2 c6
      refine v_iload_n dX10_chambers_34 rfl rfl ?_
      refine v_goto (tgt := 50) dX10_chambers_35 (by decide) ?_
      refine u_callV [.int r4] mX10_settle iX10_settle lX10_68 dX10_chambers_50 sh_0 rfl rfl (by decide) ⟨rfl, rfl, id⟩ rfl rfl (Nat.le_of_ble_eq_true rfl) (Nat.le_of_ble_eq_true rfl) (v_X10_settle r4 _ _ h) ?_
      rintro _ τ11 ⟨r10, rfl, h⟩
      exact u_iret dX10_chambers_53 ⟨rfl, id⟩ h
  · have h := h.2 c3
    refine v_bipush (v := -2) dX10_chambers_14 (by decide) ?_
    exact u_iret dX10_chambers_16 ⟨rfl, id⟩ h
def T_X7_begin  (τ : kT) (post : kT → Prop) : Prop := (∀ τ1 : kT, τ1 = q_si τ 40 1 (0 : Int32) → post τ1)
set_option maxRecDepth 100000 in
set_option maxHeartbeats 4000000 in
theorem v_X7_begin {d : Nat}   (τ : kT) (post : kT → Prop) (h : T_X7_begin   τ post) : U yX7_begin cX7_begin 1 none (d + 0) kE0 0 [some (.ref 40)] [] τ (k_pv post) := by
  unfold T_X7_begin at h
  refine v_aload_n dX7_begin_0 rfl rfl ?_
  refine v_iconst (v := 0) dX7_begin_1 (by decide) ?_
  refine u_puti pX7_15 ⟨_, rfl⟩ dX7_begin_2 sh_40 rfl (by decide) (by decide) (fun τ1 e_τ1 => ?_)
  have h := h τ1 e_τ1
  exact u_vret dX7_begin_5 ⟨rfl, id⟩ h
def T_X7_add (a1 : Int32) (τ : kT) (post : kT → Prop) : Prop := (((40 : Int32) ≤ (q_i τ 40 1) → (∀ τ2 : kT, τ2 = q_si τ 40 1 ((q_i τ 40 1) + (1 : Int32)) → post τ2)) ∧ (¬ (40 : Int32) ≤ (q_i τ 40 1) → (∃ j3 : Nat, (q_i τ 40 1) = nI j3 ∧ j3 < 40 ∧ (∀ τ4 : kT, τ4 = q_si τ 41 j3 a1 → (∀ τ5 : kT, τ5 = q_si τ4 40 1 ((q_i τ4 40 1) + (1 : Int32)) → post τ5)))))
set_option maxRecDepth 100000 in
set_option maxHeartbeats 4000000 in
theorem v_X7_add {d : Nat}  (a1 : Int32) (τ : kT) (post : kT → Prop) (h : T_X7_add  a1 τ post) : U yX7_add cX7_add 2 none (d + 0) kE0 0 [some (.ref 40), some (.int a1)] [] τ (k_pv post) := by
  unfold T_X7_add at h
  refine v_aload_n dX7_add_0 rfl rfl ?_
  refine u_geti fX7_15 dX7_add_1 sh_40 rfl (by decide) ?_
  refine v_bipush (v := 40) dX7_add_4 (by decide) ?_
  refine v_icmp_ge (tgt := 19) dX7_add_6 (by decide) (fun c1 => ?_) (fun c1 => ?_)
  · have h := h.1 c1
    refine v_aload_n dX7_add_19 rfl rfl ?_
    refine v_dup dX7_add_20 rfl ?_
    refine u_geti fX7_15 dX7_add_21 sh_40 rfl (by decide) ?_
    refine v_iconst (v := 1) dX7_add_24 (by decide) ?_
    refine v_iadd dX7_add_25 ?_
    refine u_puti pX7_15 ⟨_, rfl⟩ dX7_add_26 sh_40 rfl (by decide) (by decide) (fun τ2 e_τ2 => ?_)
    have h := h τ2 e_τ2
    exact u_vret dX7_add_29 ⟨rfl, id⟩ h
  · have h := h.2 c1
    refine v_aload_n dX7_add_9 rfl rfl ?_
    refine u_getr fX7_9 dX7_add_10 sh_40 rfl (by decide) (rf_40_0 _) ?_
    refine v_aload_n dX7_add_13 rfl rfl ?_
    refine u_geti fX7_15 dX7_add_14 sh_40 rfl (by decide) ?_
    refine v_iload_n dX7_add_17 rfl rfl ?_
    obtain ⟨j3, e_j3, l_j3, h⟩ := h
    refine u_iast dX7_add_18 sh_41 (by decide) (by decide) e_j3 l_j3 (fun τ4 e_τ4 => ?_)
    have h := h τ4 e_τ4
    refine v_aload_n dX7_add_19 rfl rfl ?_
    refine v_dup dX7_add_20 rfl ?_
    refine u_geti fX7_15 dX7_add_21 sh_40 rfl (by decide) ?_
    refine v_iconst (v := 1) dX7_add_24 (by decide) ?_
    refine v_iadd dX7_add_25 ?_
    refine u_puti pX7_15 ⟨_, rfl⟩ dX7_add_26 sh_40 rfl (by decide) (by decide) (fun τ5 e_τ5 => ?_)
    have h := h τ5 e_τ5
    exact u_vret dX7_add_29 ⟨rfl, id⟩ h
def L_X9_sumOf_4  (f0 : Int32) (K : Int32 → Int32 → kT → Prop) (post : Int32 → kT → Prop) : Nat → Int32 → Int32 → kT → Prop
  | 0, _, _, _ => False
  | n + 1, x1, x2, τ => (((9 : Int32) < x2 → K x1 x2 τ) ∧ (¬ (9 : Int32) < x2 → (((f0 &&& ((1 : Int32) <<< (x2 &&& 31))) = 0 → (∀ v3 : Int32, v3 = x2 + (1 : Int32) → L_X9_sumOf_4 f0 K post n x1 v3 τ)) ∧ (¬ (f0 &&& ((1 : Int32) <<< (x2 &&& 31))) = 0 → (∀ v4 : Int32, v4 = (x1 + x2) → (∀ v5 : Int32, v5 = x2 + (1 : Int32) → L_X9_sumOf_4 f0 K post n v4 v5 τ))))))
def T_X9_sumOf (a1 : Int32) (τ : kT) (post : Int32 → kT → Prop) : Prop := (∃ m6 : Nat, L_X9_sumOf_4  a1 (fun v7 v8 τ9 => post v7 τ9) post m6 (0 : Int32) (0 : Int32) τ)
set_option maxRecDepth 100000 in
set_option maxHeartbeats 4000000 in
theorem l_X9_sumOf_4 {d : Nat}  (f0 : Int32) {K : Int32 → Int32 → kT → Prop} {post : Int32 → kT → Prop} (hK : ∀ (x1 : Int32) (x2 : Int32) (τ : kT), K x1 x2 τ → U yX9_sumOf cX9_sumOf 3 (some .int) (d + 0) kE0 28 [some (.int f0), some (.int x1), some (.int x2)] [] τ (k_pi post)) : ∀ (n : Nat) (x1 : Int32) (x2 : Int32) (τ : kT), L_X9_sumOf_4  f0 K post n x1 x2 τ → U yX9_sumOf cX9_sumOf 3 (some .int) (d + 0) kE0 4 [some (.int f0), some (.int x1), some (.int x2)] [] τ (k_pi post) := by
  intro n
  induction n with
  | zero => intro x1 x2 τ h; exact h.elim
  | succ n ih =>
    intro x1 x2 τ h
    unfold L_X9_sumOf_4 at h
    refine v_iload_n dX9_sumOf_4 rfl rfl ?_
    refine v_bipush (v := 9) dX9_sumOf_5 (by decide) ?_
    refine v_icmp_gt (tgt := 28) dX9_sumOf_7 (by decide) (fun c1 => ?_) (fun c1 => ?_)
    · have h := h.1 c1
      exact hK x1 x2 _ h
    · have h := h.2 c1
      refine v_iload_n dX9_sumOf_10 rfl rfl ?_
      refine v_iconst (v := 1) dX9_sumOf_11 (by decide) ?_
      refine v_iload_n dX9_sumOf_12 rfl rfl ?_
      refine v_ishl dX9_sumOf_13 ?_
      refine v_iand dX9_sumOf_14 ?_
      refine v_if_eq (tgt := 22) dX9_sumOf_15 (by decide) (fun c2 => ?_) (fun c2 => ?_)
      · have h := h.1 c2
        obtain ⟨v3, e_v3⟩ : ∃ z : Int32, z = x2 + (1 : Int32) := ⟨_, rfl⟩
        have h := h v3 e_v3
        refine v_iinc (v := v3) dX9_sumOf_22 rfl (by rw [e_v3]; rfl) (by decide) rfl ?_
        refine v_ls (ls2 := [some (.int f0), some (.int x1), some (.int v3)]) rfl ?_
        refine v_goto (tgt := 4) dX9_sumOf_25 (by decide) ?_
        exact ih x1 v3 _ h
      · have h := h.2 c2
        refine v_iload_n dX9_sumOf_18 rfl rfl ?_
        refine v_iload_n dX9_sumOf_19 rfl rfl ?_
        refine v_iadd dX9_sumOf_20 ?_
        refine v_topi (fun v4 e_v4 => ?_)
        have h := h v4 e_v4
        refine v_istore_n dX9_sumOf_21 rfl (by decide) rfl ?_
        refine v_ls (ls2 := [some (.int f0), some (.int v4), some (.int x2)]) rfl ?_
        obtain ⟨v5, e_v5⟩ : ∃ z : Int32, z = x2 + (1 : Int32) := ⟨_, rfl⟩
        have h := h v5 e_v5
        refine v_iinc (v := v5) dX9_sumOf_22 rfl (by rw [e_v5]; rfl) (by decide) rfl ?_
        refine v_ls (ls2 := [some (.int f0), some (.int v4), some (.int v5)]) rfl ?_
        refine v_goto (tgt := 4) dX9_sumOf_25 (by decide) ?_
        exact ih v4 v5 _ h
set_option maxRecDepth 100000 in
set_option maxHeartbeats 4000000 in
theorem v_X9_sumOf {d : Nat}  (a1 : Int32) (τ : kT) (post : Int32 → kT → Prop) (h : T_X9_sumOf  a1 τ post) : U yX9_sumOf cX9_sumOf 3 (some .int) (d + 0) kE0 0 [some (.int a1), none, none] [] τ (k_pi post) := by
  unfold T_X9_sumOf at h
  refine v_iconst (v := 0) dX9_sumOf_0 (by decide) ?_
  refine v_istore_n dX9_sumOf_1 rfl (by decide) rfl ?_
  refine v_ls (ls2 := [some (.int a1), some (.int (0 : Int32)), none]) rfl ?_
  refine v_iconst (v := 0) dX9_sumOf_2 (by decide) ?_
  refine v_istore_n dX9_sumOf_3 rfl (by decide) rfl ?_
  refine v_ls (ls2 := [some (.int a1), some (.int (0 : Int32)), some (.int (0 : Int32))]) rfl ?_
  obtain ⟨m6, h⟩ := h
  refine l_X9_sumOf_4  a1 (fun v7 v8 τ9 h => ?_) m6 (0 : Int32) (0 : Int32) _ h
  refine v_iload_n dX9_sumOf_28 rfl rfl ?_
  exact u_iret dX9_sumOf_29 ⟨rfl, id⟩ h
def L_X9_weightOfSingle_39  (f1 : Int32) (K : Int32 → Int32 → kT → Prop) (post : Int32 → kT → Prop) : Nat → Int32 → Int32 → kT → Prop
  | 0, _, _, _ => False
  | n + 1, x3, x4, τ => (∃ j9 : Nat, f1 = nI j9 ∧ j9 < 100 ∧ (((q_i τ 4 j9) ≤ x4 → K x3 x4 τ) ∧ (¬ (q_i τ 4 j9) ≤ x4 → (T_X4_heightsIn f1 x4 τ (fun r11 τ12 => (T_X9_sumOf r11 τ12 (fun r13 τ14 => (∀ v15 : Int32, v15 = (x3 + r13) → (∀ v16 : Int32, v16 = x4 + (1 : Int32) → L_X9_weightOfSingle_39 f1 K post n v15 v16 τ14)))))))))
def T_X9_weightOfSingle (a1 : Int32) (τ : kT) (post : Int32 → kT → Prop) : Prop := (T_X4_isCore a1 τ (fun r1 τ2 => ((r1 = 0 → (T_X7_add (5 : Int32) τ2 (fun τ5 => (T_X4_isOut a1 τ5 (fun r6 τ7 => ((r6 = 0 → (∃ m17 : Nat, L_X9_weightOfSingle_39  a1 (fun v18 v19 τ20 => post v18 τ20) post m17 (10 : Int32) (0 : Int32) τ7)) ∧ (¬ r6 = 0 → post (-11 : Int32) τ7))))))) ∧ (¬ r1 = 0 → (T_X7_add (6 : Int32) τ2 (fun τ22 => (∀ v23 : Int32, v23 = (10 : Int32) + (5 : Int32) → (T_X7_add (5 : Int32) τ22 (fun τ25 => (T_X4_isOut a1 τ25 (fun r26 τ27 => ((r26 = 0 → (∃ m29 : Nat, L_X9_weightOfSingle_39  a1 (fun v30 v31 τ32 => post v30 τ32) post m29 v23 (0 : Int32) τ27)) ∧ (¬ r26 = 0 → post (-11 : Int32) τ27)))))))))))))
set_option maxRecDepth 100000 in
set_option maxHeartbeats 4000000 in
theorem l_X9_weightOfSingle_39 {d : Nat}  (f1 : Int32) {K : Int32 → Int32 → kT → Prop} {post : Int32 → kT → Prop} (hK : ∀ (x3 : Int32) (x4 : Int32) (τ : kT), K x3 x4 τ → U yX9_weightOfSingle cX9_weightOfSingle 5 (some .int) (d + 3) kE0 69 [some (.ref 2), some (.int f1), some (.ref 40), some (.int x3), some (.int x4)] [] τ (k_pi post)) : ∀ (n : Nat) (x3 : Int32) (x4 : Int32) (τ : kT), L_X9_weightOfSingle_39  f1 K post n x3 x4 τ → U yX9_weightOfSingle cX9_weightOfSingle 5 (some .int) (d + 3) kE0 39 [some (.ref 2), some (.int f1), some (.ref 40), some (.int x3), some (.int x4)] [] τ (k_pi post) := by
  intro n
  induction n with
  | zero => intro x3 x4 τ h; exact h.elim
  | succ n ih =>
    intro x3 x4 τ h
    unfold L_X9_weightOfSingle_39 at h
    refine v_iload dX9_weightOfSingle_39 rfl ?_
    refine v_aload_n dX9_weightOfSingle_41 rfl rfl ?_
    refine u_getr fX9_43 dX9_weightOfSingle_42 sh_2 rfl (by decide) (rf_2_1 _) ?_
    refine v_iload_n dX9_weightOfSingle_45 rfl rfl ?_
    obtain ⟨j9, e_j9, l_j9, h⟩ := h
    refine u_iald dX9_weightOfSingle_46 sh_4 (by decide) (by decide) e_j9 l_j9 ?_
    refine v_icmp_ge (tgt := 69) dX9_weightOfSingle_47 (by decide) (fun c10 => ?_) (fun c10 => ?_)
    · have h := h.1 c10
      exact hK x3 x4 _ h
    · have h := h.2 c10
      refine v_iload_n dX9_weightOfSingle_50 rfl rfl ?_
      refine v_aload_n dX9_weightOfSingle_51 rfl rfl ?_
      refine v_iload_n dX9_weightOfSingle_52 rfl rfl ?_
      refine v_iload dX9_weightOfSingle_53 rfl ?_
      refine u_callV [.int f1, .int x4] mX4_heightsIn iX4_heightsIn lX9_46 dX9_weightOfSingle_55 sh_2 rfl rfl (by decide) ⟨rfl, rfl, id⟩ rfl rfl (Nat.le_of_ble_eq_true rfl) (Nat.le_of_ble_eq_true rfl) (v_X4_heightsIn f1 x4 _ _ h) ?_
      rintro _ τ12 ⟨r11, rfl, h⟩
      refine u_callS [.int r11] mX9_sumOf sX9_sumOf lX9_50 dX9_weightOfSingle_58 ⟨rfl, rfl, id⟩ rfl rfl (Nat.le_of_ble_eq_true rfl) (Nat.le_of_ble_eq_true rfl) (v_X9_sumOf r11 _ _ h) ?_
      rintro _ τ14 ⟨r13, rfl, h⟩
      refine v_iadd dX9_weightOfSingle_61 ?_
      refine v_topi (fun v15 e_v15 => ?_)
      have h := h v15 e_v15
      refine v_istore_n dX9_weightOfSingle_62 rfl (by decide) rfl ?_
      refine v_ls (ls2 := [some (.ref 2), some (.int f1), some (.ref 40), some (.int v15), some (.int x4)]) rfl ?_
      obtain ⟨v16, e_v16⟩ : ∃ z : Int32, z = x4 + (1 : Int32) := ⟨_, rfl⟩
      have h := h v16 e_v16
      refine v_iinc (v := v16) dX9_weightOfSingle_63 rfl (by rw [e_v16]; rfl) (by decide) rfl ?_
      refine v_ls (ls2 := [some (.ref 2), some (.int f1), some (.ref 40), some (.int v15), some (.int v16)]) rfl ?_
      refine v_goto (tgt := 39) dX9_weightOfSingle_66 (by decide) ?_
      exact ih v15 v16 _ h
set_option maxRecDepth 100000 in
set_option maxHeartbeats 4000000 in
theorem v_X9_weightOfSingle {d : Nat}  (a1 : Int32) (τ : kT) (post : Int32 → kT → Prop) (h : T_X9_weightOfSingle  a1 τ post) : U yX9_weightOfSingle cX9_weightOfSingle 5 (some .int) (d + 3) kE0 0 [some (.ref 2), some (.int a1), some (.ref 40), none, none] [] τ (k_pi post) := by
  unfold T_X9_weightOfSingle at h
  refine v_bipush (v := 10) dX9_weightOfSingle_0 (by decide) ?_
  refine v_istore_n dX9_weightOfSingle_2 rfl (by decide) rfl ?_
  refine v_ls (ls2 := [some (.ref 2), some (.int a1), some (.ref 40), some (.int (10 : Int32)), none]) rfl ?_
  refine v_aload_n dX9_weightOfSingle_3 rfl rfl ?_
  refine v_iload_n dX9_weightOfSingle_4 rfl rfl ?_
  refine u_callV [.int a1] mX4_isCore iX4_isCore lX9_37 dX9_weightOfSingle_5 sh_2 rfl rfl (by decide) ⟨rfl, rfl, id⟩ rfl rfl (Nat.le_of_ble_eq_true rfl) (Nat.le_of_ble_eq_true rfl) (v_X4_isCore a1 _ _ h) ?_
  rintro _ τ2 ⟨r1, rfl, h⟩
  refine v_if_eq (tgt := 20) dX9_weightOfSingle_8 (by decide) (fun c3 => ?_) (fun c3 => ?_)
  · have h := h.1 c3
    refine v_aload_n dX9_weightOfSingle_20 rfl rfl ?_
    refine v_iconst (v := 5) dX9_weightOfSingle_21 (by decide) ?_
    refine u_callV [.int (5 : Int32)] mX7_add iX7_add lX9_23 dX9_weightOfSingle_22 sh_40 rfl rfl (by decide) ⟨rfl, rfl, id⟩ rfl rfl (Nat.le_of_ble_eq_true rfl) (Nat.le_of_ble_eq_true rfl) (v_X7_add (5 : Int32) _ _ h) ?_
    rintro _ τ5 ⟨rfl, h⟩
    refine v_aload_n dX9_weightOfSingle_25 rfl rfl ?_
    refine v_iload_n dX9_weightOfSingle_26 rfl rfl ?_
    refine u_callV [.int a1] mX4_isOut iX4_isOut lX9_40 dX9_weightOfSingle_27 sh_2 rfl rfl (by decide) ⟨rfl, rfl, id⟩ rfl rfl (Nat.le_of_ble_eq_true rfl) (Nat.le_of_ble_eq_true rfl) (v_X4_isOut a1 _ _ h) ?_
    rintro _ τ7 ⟨r6, rfl, h⟩
    refine v_if_eq (tgt := 36) dX9_weightOfSingle_30 (by decide) (fun c8 => ?_) (fun c8 => ?_)
    · have h := h.1 c8
      refine v_iconst (v := 0) dX9_weightOfSingle_36 (by decide) ?_
      refine v_istore dX9_weightOfSingle_37 (by decide) rfl ?_
      refine v_ls (ls2 := [some (.ref 2), some (.int a1), some (.ref 40), some (.int (10 : Int32)), some (.int (0 : Int32))]) rfl ?_
      obtain ⟨m17, h⟩ := h
      refine l_X9_weightOfSingle_39  a1 (fun v18 v19 τ20 h => ?_) m17 (10 : Int32) (0 : Int32) _ h
      refine v_iload_n dX9_weightOfSingle_69 rfl rfl ?_
      exact u_iret dX9_weightOfSingle_70 ⟨rfl, id⟩ h
    · have h := h.2 c8
      refine v_bipush (v := -11) dX9_weightOfSingle_33 (by decide) ?_
      exact u_iret dX9_weightOfSingle_35 ⟨rfl, id⟩ h
  · have h := h.2 c3
    refine v_aload_n dX9_weightOfSingle_11 rfl rfl ?_
    refine v_bipush (v := 6) dX9_weightOfSingle_12 (by decide) ?_
    refine u_callV [.int (6 : Int32)] mX7_add iX7_add lX9_23 dX9_weightOfSingle_14 sh_40 rfl rfl (by decide) ⟨rfl, rfl, id⟩ rfl rfl (Nat.le_of_ble_eq_true rfl) (Nat.le_of_ble_eq_true rfl) (v_X7_add (6 : Int32) _ _ h) ?_
    rintro _ τ22 ⟨rfl, h⟩
    obtain ⟨v23, e_v23⟩ : ∃ z : Int32, z = (10 : Int32) + (5 : Int32) := ⟨_, rfl⟩
    have h := h v23 e_v23
    refine v_iinc (v := v23) dX9_weightOfSingle_17 rfl (by rw [e_v23]; rfl) (by decide) rfl ?_
    refine v_ls (ls2 := [some (.ref 2), some (.int a1), some (.ref 40), some (.int v23), none]) rfl ?_
    refine v_aload_n dX9_weightOfSingle_20 rfl rfl ?_
    refine v_iconst (v := 5) dX9_weightOfSingle_21 (by decide) ?_
    refine u_callV [.int (5 : Int32)] mX7_add iX7_add lX9_23 dX9_weightOfSingle_22 sh_40 rfl rfl (by decide) ⟨rfl, rfl, id⟩ rfl rfl (Nat.le_of_ble_eq_true rfl) (Nat.le_of_ble_eq_true rfl) (v_X7_add (5 : Int32) _ _ h) ?_
    rintro _ τ25 ⟨rfl, h⟩
    refine v_aload_n dX9_weightOfSingle_25 rfl rfl ?_
    refine v_iload_n dX9_weightOfSingle_26 rfl rfl ?_
    refine u_callV [.int a1] mX4_isOut iX4_isOut lX9_40 dX9_weightOfSingle_27 sh_2 rfl rfl (by decide) ⟨rfl, rfl, id⟩ rfl rfl (Nat.le_of_ble_eq_true rfl) (Nat.le_of_ble_eq_true rfl) (v_X4_isOut a1 _ _ h) ?_
    rintro _ τ27 ⟨r26, rfl, h⟩
    refine v_if_eq (tgt := 36) dX9_weightOfSingle_30 (by decide) (fun c28 => ?_) (fun c28 => ?_)
    · have h := h.1 c28
      refine v_iconst (v := 0) dX9_weightOfSingle_36 (by decide) ?_
      refine v_istore dX9_weightOfSingle_37 (by decide) rfl ?_
      refine v_ls (ls2 := [some (.ref 2), some (.int a1), some (.ref 40), some (.int v23), some (.int (0 : Int32))]) rfl ?_
      obtain ⟨m29, h⟩ := h
      refine l_X9_weightOfSingle_39  a1 (fun v30 v31 τ32 h => ?_) m29 v23 (0 : Int32) _ h
      refine v_iload_n dX9_weightOfSingle_69 rfl rfl ?_
      exact u_iret dX9_weightOfSingle_70 ⟨rfl, id⟩ h
    · have h := h.2 c28
      refine v_bipush (v := -11) dX9_weightOfSingle_33 (by decide) ?_
      exact u_iret dX9_weightOfSingle_35 ⟨rfl, id⟩ h
def T_X9_weightOfHalf (a1 : Int32) (τ : kT) (post : Int32 → kT → Prop) : Prop := ((¬ a1 = (-1 : Int32) → (T_X9_weightOfSingle a1 τ (fun r2 τ3 => post r2 τ3))) ∧ (a1 = (-1 : Int32) → post (0 : Int32) τ))
set_option maxRecDepth 100000 in
set_option maxHeartbeats 4000000 in
theorem v_X9_weightOfHalf {d : Nat}  (a1 : Int32) (τ : kT) (post : Int32 → kT → Prop) (h : T_X9_weightOfHalf  a1 τ post) : U yX9_weightOfHalf cX9_weightOfHalf 3 (some .int) (d + 4) kE0 0 [some (.ref 2), some (.int a1), some (.ref 40)] [] τ (k_pi post) := by
  unfold T_X9_weightOfHalf at h
  refine v_iload_n dX9_weightOfHalf_0 rfl rfl ?_
  refine v_iconst (v := -1) dX9_weightOfHalf_1 (by decide) ?_
  refine v_icmp_ne (tgt := 9) dX9_weightOfHalf_2 (by decide) (fun c1 => ?_) (fun c1 => ?_)
  · have h := h.1 c1
    refine v_aload_n dX9_weightOfHalf_9 rfl rfl ?_
    refine v_iload_n dX9_weightOfHalf_10 rfl rfl ?_
    refine v_aload_n dX9_weightOfHalf_11 rfl rfl ?_
    refine u_callS [.ref 2, .int a1, .ref 40] mX9_weightOfSingle sX9_weightOfSingle lX9_15 dX9_weightOfHalf_12 ⟨rfl, rfl, id⟩ rfl rfl (Nat.le_of_ble_eq_true rfl) (Nat.le_of_ble_eq_true rfl) (v_X9_weightOfSingle a1 _ _ h) ?_
    rintro _ τ3 ⟨r2, rfl, h⟩
    exact u_iret dX9_weightOfHalf_15 ⟨rfl, id⟩ h
  · have h := h.2 c1
    refine v_iconst (v := 0) dX9_weightOfHalf_5 (by decide) ?_
    refine v_goto (tgt := 15) dX9_weightOfHalf_6 (by decide) ?_
    exact u_iret dX9_weightOfHalf_15 ⟨rfl, id⟩ h
def T_X9_weightOf (a1 : Int32) (τ : kT) (post : Int32 → kT → Prop) : Prop := (T_X4_isDouble a1 τ (fun r1 τ2 => ((¬ r1 = 0 → (T_X7_add (7 : Int32) τ2 (fun τ5 => (∃ j6 : Nat, a1 = nI j6 ∧ j6 < 100 ∧ (T_X9_weightOfHalf (q_i τ5 6 j6) τ5 (fun r7 τ8 => ((0 ≤ r7 → (∃ j10 : Nat, a1 = nI j10 ∧ j10 < 100 ∧ (T_X9_weightOfHalf (q_i τ8 7 j10) τ8 (fun r11 τ12 => ((0 ≤ r11 → post (r7 + r11) τ12) ∧ (¬ 0 ≤ r11 → post r11 τ12)))))) ∧ (¬ 0 ≤ r7 → post r7 τ8)))))))) ∧ (r1 = 0 → (T_X9_weightOfSingle a1 τ2 (fun r14 τ15 => post r14 τ15))))))
set_option maxRecDepth 100000 in
set_option maxHeartbeats 4000000 in
theorem v_X9_weightOf {d : Nat}  (a1 : Int32) (τ : kT) (post : Int32 → kT → Prop) (h : T_X9_weightOf  a1 τ post) : U yX9_weightOf cX9_weightOf 5 (some .int) (d + 5) kE0 0 [some (.ref 2), some (.int a1), some (.ref 40), none, none] [] τ (k_pi post) := by
  unfold T_X9_weightOf at h
  refine v_aload_n dX9_weightOf_0 rfl rfl ?_
  refine v_iload_n dX9_weightOf_1 rfl rfl ?_
  refine u_callV [.int a1] mX4_isDouble iX4_isDouble lX9_9 dX9_weightOf_2 sh_2 rfl rfl (by decide) ⟨rfl, rfl, id⟩ rfl rfl (Nat.le_of_ble_eq_true rfl) (Nat.le_of_ble_eq_true rfl) (v_X4_isDouble a1 _ _ h) ?_
  rintro _ τ2 ⟨r1, rfl, h⟩
  refine v_if_ne (tgt := 15) dX9_weightOf_5 (by decide) (fun c3 => ?_) (fun c3 => ?_)
  · have h := h.1 c3
    refine v_aload_n dX9_weightOf_15 rfl rfl ?_
    refine v_bipush (v := 7) dX9_weightOf_16 (by decide) ?_
    refine u_callV [.int (7 : Int32)] mX7_add iX7_add lX9_23 dX9_weightOf_18 sh_40 rfl rfl (by decide) ⟨rfl, rfl, id⟩ rfl rfl (Nat.le_of_ble_eq_true rfl) (Nat.le_of_ble_eq_true rfl) (v_X7_add (7 : Int32) _ _ h) ?_
    rintro _ τ5 ⟨rfl, h⟩
    refine v_aload_n dX9_weightOf_21 rfl rfl ?_
    refine v_aload_n dX9_weightOf_22 rfl rfl ?_
    refine u_getr fX9_27 dX9_weightOf_23 sh_2 rfl (by decide) (rf_2_3 _) ?_
    refine v_iload_n dX9_weightOf_26 rfl rfl ?_
    obtain ⟨j6, e_j6, l_j6, h⟩ := h
    refine u_iald dX9_weightOf_27 sh_6 (by decide) (by decide) e_j6 l_j6 ?_
    refine v_aload_n dX9_weightOf_28 rfl rfl ?_
    refine u_callS [.ref 2, .int (q_i τ5 6 j6), .ref 40] mX9_weightOfHalf sX9_weightOfHalf lX9_31 dX9_weightOf_29 ⟨rfl, rfl, id⟩ rfl rfl (Nat.le_of_ble_eq_true rfl) (Nat.le_of_ble_eq_true rfl) (v_X9_weightOfHalf (q_i τ5 6 j6) _ _ h) ?_
    rintro _ τ8 ⟨r7, rfl, h⟩
    refine v_istore_n dX9_weightOf_32 rfl (by decide) rfl ?_
    refine v_ls (ls2 := [some (.ref 2), some (.int a1), some (.ref 40), some (.int r7), none]) rfl ?_
    refine v_iload_n dX9_weightOf_33 rfl rfl ?_
    refine v_if_ge (tgt := 39) dX9_weightOf_34 (by decide) (fun c9 => ?_) (fun c9 => ?_)
    · have h := h.1 c9
      refine v_aload_n dX9_weightOf_39 rfl rfl ?_
      refine v_aload_n dX9_weightOf_40 rfl rfl ?_
      refine u_getr fX9_34 dX9_weightOf_41 sh_2 rfl (by decide) (rf_2_4 _) ?_
      refine v_iload_n dX9_weightOf_44 rfl rfl ?_
      obtain ⟨j10, e_j10, l_j10, h⟩ := h
      refine u_iald dX9_weightOf_45 sh_7 (by decide) (by decide) e_j10 l_j10 ?_
      refine v_aload_n dX9_weightOf_46 rfl rfl ?_
      refine u_callS [.ref 2, .int (q_i τ8 7 j10), .ref 40] mX9_weightOfHalf sX9_weightOfHalf lX9_31 dX9_weightOf_47 ⟨rfl, rfl, id⟩ rfl rfl (Nat.le_of_ble_eq_true rfl) (Nat.le_of_ble_eq_true rfl) (v_X9_weightOfHalf (q_i τ8 7 j10) _ _ h) ?_
      rintro _ τ12 ⟨r11, rfl, h⟩
      refine v_istore dX9_weightOf_50 (by decide) rfl ?_
      refine v_ls (ls2 := [some (.ref 2), some (.int a1), some (.ref 40), some (.int r7), some (.int r11)]) rfl ?_
      refine v_iload dX9_weightOf_52 rfl ?_
      refine v_if_ge (tgt := 62) dX9_weightOf_54 (by decide) (fun c13 => ?_) (fun c13 => ?_)
      · have h := h.1 c13
        refine v_iload_n dX9_weightOf_62 rfl rfl ?_
        refine v_iload dX9_weightOf_63 rfl ?_
        refine v_iadd dX9_weightOf_65 ?_
        exact u_iret dX9_weightOf_66 ⟨rfl, id⟩ h
      · have h := h.2 c13
        refine v_iload dX9_weightOf_57 rfl ?_
        refine v_goto (tgt := 66) dX9_weightOf_59 (by decide) ?_
        exact u_iret dX9_weightOf_66 ⟨rfl, id⟩ h
    · have h := h.2 c9
      refine v_iload_n dX9_weightOf_37 rfl rfl ?_
      exact u_iret dX9_weightOf_38 ⟨rfl, id⟩ h
  · have h := h.2 c3
    refine v_aload_n dX9_weightOf_8 rfl rfl ?_
    refine v_iload_n dX9_weightOf_9 rfl rfl ?_
    refine v_aload_n dX9_weightOf_10 rfl rfl ?_
    refine u_callS [.ref 2, .int a1, .ref 40] mX9_weightOfSingle sX9_weightOfSingle lX9_15 dX9_weightOf_11 ⟨rfl, rfl, id⟩ rfl rfl (Nat.le_of_ble_eq_true rfl) (Nat.le_of_ble_eq_true rfl) (v_X9_weightOfSingle a1 _ _ h) ?_
    rintro _ τ15 ⟨r14, rfl, h⟩
    exact u_iret dX9_weightOf_14 ⟨rfl, id⟩ h
def T_X10_weight (a1 : Int32) (τ : kT) (post : Int32 → kT → Prop) : Prop := (T_X4_has a1 τ (fun r1 τ2 => ((¬ r1 = 0 → (T_X7_begin  τ2 (fun τ5 => (T_X9_weightOf a1 τ5 (fun r6 τ7 => (T_X10_settle r6 τ7 (fun r8 τ9 => post r8 τ9))))))) ∧ (r1 = 0 → post (-2 : Int32) τ2))))
set_option maxRecDepth 100000 in
set_option maxHeartbeats 4000000 in
theorem v_X10_weight {d : Nat}  (a1 : Int32) (τ : kT) (post : Int32 → kT → Prop) (h : T_X10_weight  a1 τ post) : U yX10_weight cX10_weight 2 (some .int) (d + 6) kE0 0 [some (.ref 0), some (.int a1)] [] τ (k_pi post) := by
  unfold T_X10_weight at h
  refine v_aload_n dX10_weight_0 rfl rfl ?_
  refine u_getr fX10_10 dX10_weight_1 sh_0 rfl (by decide) (rf_0_0 _) ?_
  refine u_getr fX10_72 dX10_weight_4 sh_1 rfl (by decide) (rf_1_0 _) ?_
  refine v_iload_n dX10_weight_7 rfl rfl ?_
  refine u_callV [.int a1] mX4_has iX4_has lX10_104 dX10_weight_8 sh_2 rfl rfl (by decide) ⟨rfl, rfl, id⟩ rfl rfl (Nat.le_of_ble_eq_true rfl) (Nat.le_of_ble_eq_true rfl) (v_X4_has a1 _ _ h) ?_
  rintro _ τ2 ⟨r1, rfl, h⟩
  refine v_if_ne (tgt := 17) dX10_weight_11 (by decide) (fun c3 => ?_) (fun c3 => ?_)
  · have h := h.1 c3
    refine v_aload_n dX10_weight_17 rfl rfl ?_
    refine u_getr fX10_36 dX10_weight_18 sh_0 rfl (by decide) (rf_0_6 _) ?_
    refine u_getr fX10_163 dX10_weight_21 sh_39 rfl (by decide) (rf_39_0 _) ?_
    refine u_callV [] mX7_begin iX7_begin lX10_167 dX10_weight_24 sh_40 rfl rfl (by decide) ⟨rfl, rfl, id⟩ rfl rfl (Nat.le_of_ble_eq_true rfl) (Nat.le_of_ble_eq_true rfl) (v_X7_begin  _ _ h) ?_
    rintro _ τ5 ⟨rfl, h⟩
    refine v_aload_n dX10_weight_27 rfl rfl ?_
    refine v_aload_n dX10_weight_28 rfl rfl ?_
    refine u_getr fX10_10 dX10_weight_29 sh_0 rfl (by decide) (rf_0_0 _) ?_
    refine u_getr fX10_72 dX10_weight_32 sh_1 rfl (by decide) (rf_1_0 _) ?_
    refine v_iload_n dX10_weight_35 rfl rfl ?_
    refine v_aload_n dX10_weight_36 rfl rfl ?_
    refine u_getr fX10_36 dX10_weight_37 sh_0 rfl (by decide) (rf_0_6 _) ?_
    refine u_getr fX10_163 dX10_weight_40 sh_39 rfl (by decide) (rf_39_0 _) ?_
    refine u_callS [.ref 2, .int a1, .ref 40] mX9_weightOf sX9_weightOf lX10_172 dX10_weight_43 ⟨rfl, rfl, id⟩ rfl rfl (Nat.le_of_ble_eq_true rfl) (Nat.le_of_ble_eq_true rfl) (v_X9_weightOf a1 _ _ h) ?_
    rintro _ τ7 ⟨r6, rfl, h⟩
    refine u_callV [.int r6] mX10_settle iX10_settle lX10_68 dX10_weight_46 sh_0 rfl rfl (by decide) ⟨rfl, rfl, id⟩ rfl rfl (Nat.le_of_ble_eq_true rfl) (Nat.le_of_ble_eq_true rfl) (v_X10_settle r6 _ _ h) ?_
    rintro _ τ9 ⟨r8, rfl, h⟩
    exact u_iret dX10_weight_49 ⟨rfl, id⟩ h
  · have h := h.2 c3
    refine v_bipush (v := -2) dX10_weight_14 (by decide) ?_
    exact u_iret dX10_weight_16 ⟨rfl, id⟩ h
def T_X10_blanks (a1 : Int32) (τ : kT) (post : Int32 → kT → Prop) : Prop := ((a1 < 0 → post (-2 : Int32) τ) ∧ (¬ a1 < 0 → ((a1 ≤ (100 : Int32) → ((((q_i τ 1 6) + a1) ≤ (1000 : Int32) → (T_X10_remember  τ (fun τ5 => (∀ τ6 : kT, τ6 = q_si τ5 1 6 ((q_i τ5 1 6) + a1) → post (q_i τ6 1 6) τ6)))) ∧ (¬ ((q_i τ 1 6) + a1) ≤ (1000 : Int32) → post (-4 : Int32) τ))) ∧ (¬ a1 ≤ (100 : Int32) → post (-2 : Int32) τ))))
set_option maxRecDepth 100000 in
set_option maxHeartbeats 4000000 in
theorem v_X10_blanks {d : Nat}  (a1 : Int32) (τ : kT) (post : Int32 → kT → Prop) (h : T_X10_blanks  a1 τ post) : U yX10_blanks cX10_blanks 2 (some .int) (d + 4) kE0 0 [some (.ref 0), some (.int a1)] [] τ (k_pi post) := by
  unfold T_X10_blanks at h
  refine v_iload_n dX10_blanks_0 rfl rfl ?_
  refine v_if_lt (tgt := 10) dX10_blanks_1 (by decide) (fun c1 => ?_) (fun c1 => ?_)
  · have h := h.1 c1
    refine v_bipush (v := -2) dX10_blanks_10 (by decide) ?_
    exact u_iret dX10_blanks_12 ⟨rfl, id⟩ h
  · have h := h.2 c1
    refine v_iload_n dX10_blanks_4 rfl rfl ?_
    refine v_bipush (v := 100) dX10_blanks_5 (by decide) ?_
    refine v_icmp_le (tgt := 13) dX10_blanks_7 (by decide) (fun c2 => ?_) (fun c2 => ?_)
    · have h := h.1 c2
      refine v_aload_n dX10_blanks_13 rfl rfl ?_
      refine u_getr fX10_10 dX10_blanks_14 sh_0 rfl (by decide) (rf_0_0 _) ?_
      refine u_geti fX10_178 dX10_blanks_17 sh_1 rfl (by decide) ?_
      refine v_iload_n dX10_blanks_20 rfl rfl ?_
      refine v_iadd dX10_blanks_21 ?_
      refine v_sipush (v := 1000) dX10_blanks_22 (by decide) ?_
      refine v_icmp_le (tgt := 31) dX10_blanks_25 (by decide) (fun c3 => ?_) (fun c3 => ?_)
      · have h := h.1 c3
        refine v_aload_n dX10_blanks_31 rfl rfl ?_
        refine u_callV [] mX10_remember iX10_remember lX10_81 dX10_blanks_32 sh_0 rfl rfl (by decide) ⟨rfl, rfl, id⟩ rfl rfl (Nat.le_of_ble_eq_true rfl) (Nat.le_of_ble_eq_true rfl) (v_X10_remember  _ _ h) ?_
        rintro _ τ5 ⟨rfl, h⟩
        refine v_aload_n dX10_blanks_35 rfl rfl ?_
        refine u_getr fX10_10 dX10_blanks_36 sh_0 rfl (by decide) (rf_0_0 _) ?_
        refine v_dup dX10_blanks_39 rfl ?_
        refine u_geti fX10_178 dX10_blanks_40 sh_1 rfl (by decide) ?_
        refine v_iload_n dX10_blanks_43 rfl rfl ?_
        refine v_iadd dX10_blanks_44 ?_
        refine u_puti pX10_178 ⟨_, rfl⟩ dX10_blanks_45 sh_1 rfl (by decide) (by decide) (fun τ6 e_τ6 => ?_)
        have h := h τ6 e_τ6
        refine v_aload_n dX10_blanks_48 rfl rfl ?_
        refine u_getr fX10_10 dX10_blanks_49 sh_0 rfl (by decide) (rf_0_0 _) ?_
        refine u_geti fX10_178 dX10_blanks_52 sh_1 rfl (by decide) ?_
        exact u_iret dX10_blanks_55 ⟨rfl, id⟩ h
      · have h := h.2 c3
        refine v_bipush (v := -4) dX10_blanks_28 (by decide) ?_
        exact u_iret dX10_blanks_30 ⟨rfl, id⟩ h
    · have h := h.2 c2
      refine v_bipush (v := -2) dX10_blanks_10 (by decide) ?_
      exact u_iret dX10_blanks_12 ⟨rfl, id⟩ h
def T_X10_cuttingRefusal  (τ : kT) (post : Int32 → kT → Prop) : Prop := (((q_i τ 9 5) < (100 : Int32) → ((¬ (q_i τ 1 6) = 0 → post (0 : Int32) τ) ∧ ((q_i τ 1 6) = 0 → post (-3 : Int32) τ))) ∧ (¬ (q_i τ 9 5) < (100 : Int32) → post (-4 : Int32) τ))
set_option maxRecDepth 100000 in
set_option maxHeartbeats 4000000 in
theorem v_X10_cuttingRefusal {d : Nat}   (τ : kT) (post : Int32 → kT → Prop) (h : T_X10_cuttingRefusal   τ post) : U yX10_cuttingRefusal cX10_cuttingRefusal 1 (some .int) (d + 0) kE0 0 [some (.ref 0)] [] τ (k_pi post) := by
  unfold T_X10_cuttingRefusal at h
  refine v_aload_n dX10_cuttingRefusal_0 rfl rfl ?_
  refine u_getr fX10_10 dX10_cuttingRefusal_1 sh_0 rfl (by decide) (rf_0_0 _) ?_
  refine u_getr fX10_191 dX10_cuttingRefusal_4 sh_1 rfl (by decide) (rf_1_1 _) ?_
  refine u_geti fX10_209 dX10_cuttingRefusal_7 sh_9 rfl (by decide) ?_
  refine v_bipush (v := 100) dX10_cuttingRefusal_10 (by decide) ?_
  refine v_icmp_lt (tgt := 18) dX10_cuttingRefusal_12 (by decide) (fun c1 => ?_) (fun c1 => ?_)
  · have h := h.1 c1
    refine v_aload_n dX10_cuttingRefusal_18 rfl rfl ?_
    refine u_getr fX10_10 dX10_cuttingRefusal_19 sh_0 rfl (by decide) (rf_0_0 _) ?_
    refine u_geti fX10_178 dX10_cuttingRefusal_22 sh_1 rfl (by decide) ?_
    refine v_if_ne (tgt := 33) dX10_cuttingRefusal_25 (by decide) (fun c2 => ?_) (fun c2 => ?_)
    · have h := h.1 c2
      refine v_iconst (v := 0) dX10_cuttingRefusal_33 (by decide) ?_
      exact u_iret dX10_cuttingRefusal_34 ⟨rfl, id⟩ h
    · have h := h.2 c2
      refine v_bipush (v := -3) dX10_cuttingRefusal_28 (by decide) ?_
      refine v_goto (tgt := 34) dX10_cuttingRefusal_30 (by decide) ?_
      exact u_iret dX10_cuttingRefusal_34 ⟨rfl, id⟩ h
  · have h := h.2 c1
    refine v_bipush (v := -4) dX10_cuttingRefusal_15 (by decide) ?_
    exact u_iret dX10_cuttingRefusal_17 ⟨rfl, id⟩ h
def T_X5_addEmpty (a1 : Int32) (τ : kT) (post : Int32 → kT → Prop) : Prop := (∀ v1 : Int32, v1 = (q_i τ 9 5) → (∀ τ2 : kT, τ2 = q_si τ 9 5 ((q_i τ 9 5) + (1 : Int32)) → (∃ j3 : Nat, v1 = nI j3 ∧ j3 < 100 ∧ (∀ τ4 : kT, τ4 = q_si τ2 10 j3 a1 → (∃ j5 : Nat, v1 = nI j5 ∧ j5 < 100 ∧ (∀ τ6 : kT, τ6 = q_si τ4 12 j5 (-1 : Int32) → (∃ j7 : Nat, v1 = nI j7 ∧ j7 < 100 ∧ (∀ τ8 : kT, τ8 = q_sl τ6 13 j7 (0 : Int64) → (∃ j9 : Nat, v1 = nI j9 ∧ j9 < 100 ∧ (∀ τ10 : kT, τ10 = q_sl τ8 14 j9 (0 : Int64) → post v1 τ10))))))))))
set_option maxRecDepth 100000 in
set_option maxHeartbeats 4000000 in
theorem v_X5_addEmpty {d : Nat}  (a1 : Int32) (τ : kT) (post : Int32 → kT → Prop) (h : T_X5_addEmpty  a1 τ post) : U yX5_addEmpty cX5_addEmpty 3 (some .int) (d + 0) kE0 0 [some (.ref 9), some (.int a1), none] [] τ (k_pi post) := by
  unfold T_X5_addEmpty at h
  refine v_aload_n dX5_addEmpty_0 rfl rfl ?_
  refine u_geti fX5_28 dX5_addEmpty_1 sh_9 rfl (by decide) ?_
  refine v_topi (fun v1 e_v1 => ?_)
  have h := h v1 e_v1
  refine v_istore_n dX5_addEmpty_4 rfl (by decide) rfl ?_
  refine v_ls (ls2 := [some (.ref 9), some (.int a1), some (.int v1)]) rfl ?_
  refine v_aload_n dX5_addEmpty_5 rfl rfl ?_
  refine v_dup dX5_addEmpty_6 rfl ?_
  refine u_geti fX5_28 dX5_addEmpty_7 sh_9 rfl (by decide) ?_
  refine v_iconst (v := 1) dX5_addEmpty_10 (by decide) ?_
  refine v_iadd dX5_addEmpty_11 ?_
  refine u_puti pX5_28 ⟨_, rfl⟩ dX5_addEmpty_12 sh_9 rfl (by decide) (by decide) (fun τ2 e_τ2 => ?_)
  have h := h τ2 e_τ2
  refine v_aload_n dX5_addEmpty_15 rfl rfl ?_
  refine u_getr fX5_9 dX5_addEmpty_16 sh_9 rfl (by decide) (rf_9_0 _) ?_
  refine v_iload_n dX5_addEmpty_19 rfl rfl ?_
  refine v_iload_n dX5_addEmpty_20 rfl rfl ?_
  obtain ⟨j3, e_j3, l_j3, h⟩ := h
  refine u_iast dX5_addEmpty_21 sh_10 (by decide) (by decide) e_j3 l_j3 (fun τ4 e_τ4 => ?_)
  have h := h τ4 e_τ4
  refine v_aload_n dX5_addEmpty_22 rfl rfl ?_
  refine u_getr fX5_18 dX5_addEmpty_23 sh_9 rfl (by decide) (rf_9_2 _) ?_
  refine v_iload_n dX5_addEmpty_26 rfl rfl ?_
  refine v_iconst (v := -1) dX5_addEmpty_27 (by decide) ?_
  obtain ⟨j5, e_j5, l_j5, h⟩ := h
  refine u_iast dX5_addEmpty_28 sh_12 (by decide) (by decide) e_j5 l_j5 (fun τ6 e_τ6 => ?_)
  have h := h τ6 e_τ6
  refine v_aload_n dX5_addEmpty_29 rfl rfl ?_
  refine u_getr fX5_21 dX5_addEmpty_30 sh_9 rfl (by decide) (rf_9_3 _) ?_
  refine v_iload_n dX5_addEmpty_33 rfl rfl ?_
  refine v_lconst (v := 0) dX5_addEmpty_34 (by decide) ?_
  obtain ⟨j7, e_j7, l_j7, h⟩ := h
  refine u_last id dX5_addEmpty_35 sh_13 (by decide) (by decide) e_j7 l_j7 (fun τ8 e_τ8 => ?_)
  have h := h τ8 e_τ8
  refine v_aload_n dX5_addEmpty_36 rfl rfl ?_
  refine u_getr fX5_25 dX5_addEmpty_37 sh_9 rfl (by decide) (rf_9_4 _) ?_
  refine v_iload_n dX5_addEmpty_40 rfl rfl ?_
  refine v_lconst (v := 0) dX5_addEmpty_41 (by decide) ?_
  obtain ⟨j9, e_j9, l_j9, h⟩ := h
  refine u_last id dX5_addEmpty_42 sh_14 (by decide) (by decide) e_j9 l_j9 (fun τ10 e_τ10 => ?_)
  have h := h τ10 e_τ10
  refine v_iload_n dX5_addEmpty_43 rfl rfl ?_
  exact u_iret dX5_addEmpty_44 ⟨rfl, id⟩ h
def T_X5_has (a1 : Int32) (τ : kT) (post : Int32 → kT → Prop) : Prop := ((a1 < 0 → post (0 : Int32) τ) ∧ (¬ a1 < 0 → (((q_i τ 9 5) ≤ a1 → post (0 : Int32) τ) ∧ (¬ (q_i τ 9 5) ≤ a1 → post (1 : Int32) τ))))
set_option maxRecDepth 100000 in
set_option maxHeartbeats 4000000 in
theorem v_X5_has {d : Nat}  (a1 : Int32) (τ : kT) (post : Int32 → kT → Prop) (h : T_X5_has  a1 τ post) : U yX5_has cX5_has 2 (some .boolean) (d + 0) kE0 0 [some (.ref 9), some (.int a1)] [] τ (k_pi post) := by
  unfold T_X5_has at h
  refine v_iload_n dX5_has_0 rfl rfl ?_
  refine v_if_lt (tgt := 16) dX5_has_1 (by decide) (fun c1 => ?_) (fun c1 => ?_)
  · have h := h.1 c1
    refine v_iconst (v := 0) dX5_has_16 (by decide) ?_
    exact u_zret dX5_has_17 rfl ⟨rfl, id⟩ h
  · have h := h.2 c1
    refine v_iload_n dX5_has_4 rfl rfl ?_
    refine v_aload_n dX5_has_5 rfl rfl ?_
    refine u_geti fX5_28 dX5_has_6 sh_9 rfl (by decide) ?_
    refine v_icmp_ge (tgt := 16) dX5_has_9 (by decide) (fun c2 => ?_) (fun c2 => ?_)
    · have h := h.1 c2
      refine v_iconst (v := 0) dX5_has_16 (by decide) ?_
      exact u_zret dX5_has_17 rfl ⟨rfl, id⟩ h
    · have h := h.2 c2
      refine v_iconst (v := 1) dX5_has_12 (by decide) ?_
      refine v_goto (tgt := 17) dX5_has_13 (by decide) ?_
      exact u_zret dX5_has_17 rfl ⟨rfl, id⟩ h
def T_X5_hasCut (a1 : Int32) (a2 : Int32) (τ : kT) (post : Int32 → kT → Prop) : Prop := (T_X5_has a1 τ (fun r1 τ2 => ((r1 = 0 → post (0 : Int32) τ2) ∧ (¬ r1 = 0 → ((a2 < 0 → post (0 : Int32) τ2) ∧ (¬ a2 < 0 → (∃ j5 : Nat, a1 = nI j5 ∧ j5 < 100 ∧ (((q_i τ2 10 j5) ≤ a2 → post (0 : Int32) τ2) ∧ (¬ (q_i τ2 10 j5) ≤ a2 → post (1 : Int32) τ2)))))))))
set_option maxRecDepth 100000 in
set_option maxHeartbeats 4000000 in
theorem v_X5_hasCut {d : Nat}  (a1 : Int32) (a2 : Int32) (τ : kT) (post : Int32 → kT → Prop) (h : T_X5_hasCut  a1 a2 τ post) : U yX5_hasCut cX5_hasCut 3 (some .boolean) (d + 1) kE0 0 [some (.ref 9), some (.int a1), some (.int a2)] [] τ (k_pi post) := by
  unfold T_X5_hasCut at h
  refine v_aload_n dX5_hasCut_0 rfl rfl ?_
  refine v_iload_n dX5_hasCut_1 rfl rfl ?_
  refine u_callV [.int a1] mX5_has iX5_has lX5_32 dX5_hasCut_2 sh_9 rfl rfl (by decide) ⟨rfl, rfl, id⟩ rfl rfl (Nat.le_of_ble_eq_true rfl) (Nat.le_of_ble_eq_true rfl) (v_X5_has a1 _ _ h) ?_
  rintro _ τ2 ⟨r1, rfl, h⟩
  refine v_if_eq (tgt := 26) dX5_hasCut_5 (by decide) (fun c3 => ?_) (fun c3 => ?_)
  · have h := h.1 c3
    refine v_iconst (v := 0) dX5_hasCut_26 (by decide) ?_
    exact u_zret dX5_hasCut_27 rfl ⟨rfl, id⟩ h
  · have h := h.2 c3
    refine v_iload_n dX5_hasCut_8 rfl rfl ?_
    refine v_if_lt (tgt := 26) dX5_hasCut_9 (by decide) (fun c4 => ?_) (fun c4 => ?_)
    · have h := h.1 c4
      refine v_iconst (v := 0) dX5_hasCut_26 (by decide) ?_
      exact u_zret dX5_hasCut_27 rfl ⟨rfl, id⟩ h
    · have h := h.2 c4
      refine v_iload_n dX5_hasCut_12 rfl rfl ?_
      refine v_aload_n dX5_hasCut_13 rfl rfl ?_
      refine u_getr fX5_9 dX5_hasCut_14 sh_9 rfl (by decide) (rf_9_0 _) ?_
      refine v_iload_n dX5_hasCut_17 rfl rfl ?_
      obtain ⟨j5, e_j5, l_j5, h⟩ := h
      refine u_iald dX5_hasCut_18 sh_10 (by decide) (by decide) e_j5 l_j5 ?_
      refine v_icmp_ge (tgt := 26) dX5_hasCut_19 (by decide) (fun c6 => ?_) (fun c6 => ?_)
      · have h := h.1 c6
        refine v_iconst (v := 0) dX5_hasCut_26 (by decide) ?_
        exact u_zret dX5_hasCut_27 rfl ⟨rfl, id⟩ h
      · have h := h.2 c6
        refine v_iconst (v := 1) dX5_hasCut_22 (by decide) ?_
        refine v_goto (tgt := 27) dX5_hasCut_23 (by decide) ?_
        exact u_zret dX5_hasCut_27 rfl ⟨rfl, id⟩ h
def T_X5_setCut (a1 : Int32) (a2 : Int32) (a3 : Int32) (τ : kT) (post : kT → Prop) : Prop := (T_X5_hasCut a1 a2 τ (fun r1 τ2 => ((r1 = 0 → post τ2) ∧ (¬ r1 = 0 → (∃ j4 : Nat, ((a1 * (18 : Int32)) + a2) = nI j4 ∧ j4 < 1800 ∧ (∀ τ5 : kT, τ5 = q_si τ2 11 j4 a3 → post τ5))))))
set_option maxRecDepth 100000 in
set_option maxHeartbeats 4000000 in
theorem v_X5_setCut {d : Nat}  (a1 : Int32) (a2 : Int32) (a3 : Int32) (τ : kT) (post : kT → Prop) (h : T_X5_setCut  a1 a2 a3 τ post) : U yX5_setCut cX5_setCut 4 none (d + 2) kE0 0 [some (.ref 9), some (.int a1), some (.int a2), some (.int a3)] [] τ (k_pv post) := by
  unfold T_X5_setCut at h
  refine v_aload_n dX5_setCut_0 rfl rfl ?_
  refine v_iload_n dX5_setCut_1 rfl rfl ?_
  refine v_iload_n dX5_setCut_2 rfl rfl ?_
  refine u_callV [.int a1, .int a2] mX5_hasCut iX5_hasCut lX5_36 dX5_setCut_3 sh_9 rfl rfl (by decide) ⟨rfl, rfl, id⟩ rfl rfl (Nat.le_of_ble_eq_true rfl) (Nat.le_of_ble_eq_true rfl) (v_X5_hasCut a1 a2 _ _ h) ?_
  rintro _ τ2 ⟨r1, rfl, h⟩
  refine v_if_eq (tgt := 21) dX5_setCut_6 (by decide) (fun c3 => ?_) (fun c3 => ?_)
  · have h := h.1 c3
    exact u_vret dX5_setCut_21 ⟨rfl, id⟩ h
  · have h := h.2 c3
    refine v_aload_n dX5_setCut_9 rfl rfl ?_
    refine u_getr fX5_15 dX5_setCut_10 sh_9 rfl (by decide) (rf_9_1 _) ?_
    refine v_iload_n dX5_setCut_13 rfl rfl ?_
    refine v_bipush (v := 18) dX5_setCut_14 (by decide) ?_
    refine v_imul dX5_setCut_16 ?_
    refine v_iload_n dX5_setCut_17 rfl rfl ?_
    refine v_iadd dX5_setCut_18 ?_
    refine v_iload_n dX5_setCut_19 rfl rfl ?_
    obtain ⟨j4, e_j4, l_j4, h⟩ := h
    refine u_iast dX5_setCut_20 sh_11 (by decide) (by decide) e_j4 l_j4 (fun τ5 e_τ5 => ?_)
    have h := h τ5 e_τ5
    exact u_vret dX5_setCut_21 ⟨rfl, id⟩ h
def L_X5_add_13  (f1 : Int32) (f2 : Int64) (f4 : Int32) (K : Int64 → Int32 → kT → Prop) (post : Int32 → kT → Prop) : Nat → Int64 → Int32 → kT → Prop
  | 0, _, _, _ => False
  | n + 1, x5, x7, τ => ((f1 ≤ x7 → K x5 x7 τ) ∧ (¬ f1 ≤ x7 → (T_X5_setCut f4 x7 (((x5 - x5 / (10 : Int64) * (10 : Int64))).toInt32) τ (fun τ5 => (∀ v6 : Int64, v6 = (x5 / (10 : Int64)) → (∀ v7 : Int32, v7 = x7 + (1 : Int32) → L_X5_add_13 f1 f2 f4 K post n v6 v7 τ5))))))
def T_X5_add (a1 : Int32) (a2 : Int64) (τ : kT) (post : Int32 → kT → Prop) : Prop := (T_X5_addEmpty a1 τ (fun r1 τ2 => (∃ m8 : Nat, L_X5_add_13  a1 a2 r1 (fun v9 v10 τ11 => post r1 τ11) post m8 a2 (0 : Int32) τ2)))
set_option maxRecDepth 100000 in
set_option maxHeartbeats 4000000 in
theorem l_X5_add_13 {d : Nat}  (f1 : Int32) (f2 : Int64) (f4 : Int32) {K : Int64 → Int32 → kT → Prop} {post : Int32 → kT → Prop} (hK : ∀ (x5 : Int64) (x7 : Int32) (τ : kT), K x5 x7 τ → U yX5_add cX5_add 8 (some .int) (d + 3) kE0 48 [some (.ref 9), some (.int f1), some (.long f2), none, some (.int f4), some (.long x5), none, some (.int x7)] [] τ (k_pi post)) : ∀ (n : Nat) (x5 : Int64) (x7 : Int32) (τ : kT), L_X5_add_13  f1 f2 f4 K post n x5 x7 τ → U yX5_add cX5_add 8 (some .int) (d + 3) kE0 13 [some (.ref 9), some (.int f1), some (.long f2), none, some (.int f4), some (.long x5), none, some (.int x7)] [] τ (k_pi post) := by
  intro n
  induction n with
  | zero => intro x5 x7 τ h; exact h.elim
  | succ n ih =>
    intro x5 x7 τ h
    unfold L_X5_add_13 at h
    refine v_iload dX5_add_13 rfl ?_
    refine v_iload_n dX5_add_15 rfl rfl ?_
    refine v_icmp_ge (tgt := 48) dX5_add_16 (by decide) (fun c3 => ?_) (fun c3 => ?_)
    · have h := h.1 c3
      exact hK x5 x7 _ h
    · have h := h.2 c3
      refine v_aload_n dX5_add_19 rfl rfl ?_
      refine v_iload dX5_add_20 rfl ?_
      refine v_iload dX5_add_22 rfl ?_
      refine v_lload dX5_add_24 rfl ?_
      refine v_ldc2 kX5_44 dX5_add_26 ?_
      refine v_lrem dX5_add_29 (by decide) ?_
      refine v_l2i dX5_add_30 ?_
      refine u_callV [.int f4, .int x7, .int (((x5 - x5 / (10 : Int64) * (10 : Int64))).toInt32)] mX5_setCut iX5_setCut lX5_46 dX5_add_31 sh_9 rfl rfl (by decide) ⟨rfl, rfl, id⟩ rfl rfl (Nat.le_of_ble_eq_true rfl) (Nat.le_of_ble_eq_true rfl) (v_X5_setCut f4 x7 (((x5 - x5 / (10 : Int64) * (10 : Int64))).toInt32) _ _ h) ?_
      rintro _ τ5 ⟨rfl, h⟩
      refine v_lload dX5_add_34 rfl ?_
      refine v_ldc2 kX5_44 dX5_add_36 ?_
      refine v_ldiv dX5_add_39 (by decide) ?_
      refine v_topl (fun v6 e_v6 => ?_)
      have h := h v6 e_v6
      refine v_lstore dX5_add_40 (by decide) rfl ?_
      refine v_ls (ls2 := [some (.ref 9), some (.int f1), some (.long f2), none, some (.int f4), some (.long v6), none, some (.int x7)]) rfl ?_
      obtain ⟨v7, e_v7⟩ : ∃ z : Int32, z = x7 + (1 : Int32) := ⟨_, rfl⟩
      have h := h v7 e_v7
      refine v_iinc (v := v7) dX5_add_42 rfl (by rw [e_v7]; rfl) (by decide) rfl ?_
      refine v_ls (ls2 := [some (.ref 9), some (.int f1), some (.long f2), none, some (.int f4), some (.long v6), none, some (.int v7)]) rfl ?_
      refine v_goto (tgt := 13) dX5_add_45 (by decide) ?_
      exact ih v6 v7 _ h
set_option maxRecDepth 100000 in
set_option maxHeartbeats 4000000 in
theorem v_X5_add {d : Nat}  (a1 : Int32) (a2 : Int64) (τ : kT) (post : Int32 → kT → Prop) (h : T_X5_add  a1 a2 τ post) : U yX5_add cX5_add 8 (some .int) (d + 3) kE0 0 [some (.ref 9), some (.int a1), some (.long a2), none, none, none, none, none] [] τ (k_pi post) := by
  unfold T_X5_add at h
  refine v_aload_n dX5_add_0 rfl rfl ?_
  refine v_iload_n dX5_add_1 rfl rfl ?_
  refine u_callV [.int a1] mX5_addEmpty iX5_addEmpty lX5_40 dX5_add_2 sh_9 rfl rfl (by decide) ⟨rfl, rfl, id⟩ rfl rfl (Nat.le_of_ble_eq_true rfl) (Nat.le_of_ble_eq_true rfl) (v_X5_addEmpty a1 _ _ h) ?_
  rintro _ τ2 ⟨r1, rfl, h⟩
  refine v_istore dX5_add_5 (by decide) rfl ?_
  refine v_ls (ls2 := [some (.ref 9), some (.int a1), some (.long a2), none, some (.int r1), none, none, none]) rfl ?_
  refine v_lload_n dX5_add_7 rfl rfl ?_
  refine v_lstore dX5_add_8 (by decide) rfl ?_
  refine v_ls (ls2 := [some (.ref 9), some (.int a1), some (.long a2), none, some (.int r1), some (.long a2), none, none]) rfl ?_
  refine v_iconst (v := 0) dX5_add_10 (by decide) ?_
  refine v_istore dX5_add_11 (by decide) rfl ?_
  refine v_ls (ls2 := [some (.ref 9), some (.int a1), some (.long a2), none, some (.int r1), some (.long a2), none, some (.int (0 : Int32))]) rfl ?_
  obtain ⟨m8, h⟩ := h
  refine l_X5_add_13  a1 a2 r1 (fun v9 v10 τ11 h => ?_) m8 a2 (0 : Int32) _ h
  refine v_iload dX5_add_48 rfl ?_
  exact u_iret dX5_add_50 ⟨rfl, id⟩ h
def T_X10_cutKey (a1 : Int32) (a2 : Int64) (τ : kT) (post : Int32 → kT → Prop) : Prop := (((18 : Int32) < a1 → post (-2 : Int32) τ) ∧ (¬ (18 : Int32) < a1 → (((lg_cmp a2 (0 : Int64)) < 0 → post (-2 : Int32) τ) ∧ (¬ (lg_cmp a2 (0 : Int64)) < 0 → (((lg_cmp a2 (999999999999999999 : Int64)) ≤ 0 → (T_X10_cuttingRefusal  τ (fun r4 τ5 => ((r4 = 0 → (∀ τ7 : kT, τ7 = q_si τ5 0 3 ((q_i τ5 0 3) + (1 : Int32)) → ((0 ≤ a1 → (T_X10_remember  τ7 (fun τ10 => (∀ τ11 : kT, τ11 = q_si τ10 1 6 ((q_i τ10 1 6) - (1 : Int32)) → (T_X5_add a1 a2 τ11 (fun r12 τ13 => post r12 τ13)))))) ∧ (¬ 0 ≤ a1 → post (-15 : Int32) τ7)))) ∧ (¬ r4 = 0 → post r4 τ5))))) ∧ (¬ (lg_cmp a2 (999999999999999999 : Int64)) ≤ 0 → post (-2 : Int32) τ))))))
set_option maxRecDepth 100000 in
set_option maxHeartbeats 4000000 in
theorem v_X10_cutKey {d : Nat}  (a1 : Int32) (a2 : Int64) (τ : kT) (post : Int32 → kT → Prop) (h : T_X10_cutKey  a1 a2 τ post) : U yX10_cutKey cX10_cutKey 5 (some .int) (d + 4) kE0 0 [some (.ref 0), some (.int a1), some (.long a2), none, none] [] τ (k_pi post) := by
  unfold T_X10_cutKey at h
  refine v_iload_n dX10_cutKey_0 rfl rfl ?_
  refine v_bipush (v := 18) dX10_cutKey_1 (by decide) ?_
  refine v_icmp_gt (tgt := 20) dX10_cutKey_3 (by decide) (fun c1 => ?_) (fun c1 => ?_)
  · have h := h.1 c1
    refine v_bipush (v := -2) dX10_cutKey_20 (by decide) ?_
    exact u_iret dX10_cutKey_22 ⟨rfl, id⟩ h
  · have h := h.2 c1
    refine v_lload_n dX10_cutKey_6 rfl rfl ?_
    refine v_lconst (v := 0) dX10_cutKey_7 (by decide) ?_
    refine v_lcmp dX10_cutKey_8 ?_
    refine v_if_lt (tgt := 20) dX10_cutKey_9 (by decide) (fun c2 => ?_) (fun c2 => ?_)
    · have h := h.1 c2
      refine v_bipush (v := -2) dX10_cutKey_20 (by decide) ?_
      exact u_iret dX10_cutKey_22 ⟨rfl, id⟩ h
    · have h := h.2 c2
      refine v_lload_n dX10_cutKey_12 rfl rfl ?_
      refine v_ldc2 kX10_185 dX10_cutKey_13 ?_
      refine v_lcmp dX10_cutKey_16 ?_
      refine v_if_le (tgt := 23) dX10_cutKey_17 (by decide) (fun c3 => ?_) (fun c3 => ?_)
      · have h := h.1 c3
        refine v_aload_n dX10_cutKey_23 rfl rfl ?_
        refine u_callV [] mX10_cuttingRefusal iX10_cuttingRefusal lX10_187 dX10_cutKey_24 sh_0 rfl rfl (by decide) ⟨rfl, rfl, id⟩ rfl rfl (Nat.le_of_ble_eq_true rfl) (Nat.le_of_ble_eq_true rfl) (v_X10_cuttingRefusal  _ _ h) ?_
        rintro _ τ5 ⟨r4, rfl, h⟩
        refine v_istore dX10_cutKey_27 (by decide) rfl ?_
        refine v_ls (ls2 := [some (.ref 0), some (.int a1), some (.long a2), none, some (.int r4)]) rfl ?_
        refine v_iload dX10_cutKey_29 rfl ?_
        refine v_if_eq (tgt := 37) dX10_cutKey_31 (by decide) (fun c6 => ?_) (fun c6 => ?_)
        · have h := h.1 c6
          refine v_aload_n dX10_cutKey_37 rfl rfl ?_
          refine v_dup dX10_cutKey_38 rfl ?_
          refine u_geti fX10_23 dX10_cutKey_39 sh_0 rfl (by decide) ?_
          refine v_iconst (v := 1) dX10_cutKey_42 (by decide) ?_
          refine v_iadd dX10_cutKey_43 ?_
          refine u_puti pX10_23 ⟨_, rfl⟩ dX10_cutKey_44 sh_0 rfl (by decide) (by decide) (fun τ7 e_τ7 => ?_)
          have h := h τ7 e_τ7
          refine v_iload_n dX10_cutKey_47 rfl rfl ?_
          refine v_if_ge (tgt := 54) dX10_cutKey_48 (by decide) (fun c8 => ?_) (fun c8 => ?_)
          · have h := h.1 c8
            refine v_aload_n dX10_cutKey_54 rfl rfl ?_
            refine u_callV [] mX10_remember iX10_remember lX10_81 dX10_cutKey_55 sh_0 rfl rfl (by decide) ⟨rfl, rfl, id⟩ rfl rfl (Nat.le_of_ble_eq_true rfl) (Nat.le_of_ble_eq_true rfl) (v_X10_remember  _ _ h) ?_
            rintro _ τ10 ⟨rfl, h⟩
            refine v_aload_n dX10_cutKey_58 rfl rfl ?_
            refine u_getr fX10_10 dX10_cutKey_59 sh_0 rfl (by decide) (rf_0_0 _) ?_
            refine v_dup dX10_cutKey_62 rfl ?_
            refine u_geti fX10_178 dX10_cutKey_63 sh_1 rfl (by decide) ?_
            refine v_iconst (v := 1) dX10_cutKey_66 (by decide) ?_
            refine v_isub dX10_cutKey_67 ?_
            refine u_puti pX10_178 ⟨_, rfl⟩ dX10_cutKey_68 sh_1 rfl (by decide) (by decide) (fun τ11 e_τ11 => ?_)
            have h := h τ11 e_τ11
            refine v_aload_n dX10_cutKey_71 rfl rfl ?_
            refine u_getr fX10_10 dX10_cutKey_72 sh_0 rfl (by decide) (rf_0_0 _) ?_
            refine u_getr fX10_191 dX10_cutKey_75 sh_1 rfl (by decide) (rf_1_1 _) ?_
            refine v_iload_n dX10_cutKey_78 rfl rfl ?_
            refine v_lload_n dX10_cutKey_79 rfl rfl ?_
            refine u_callV [.int a1, .long a2] mX5_add iX5_add lX10_195 dX10_cutKey_80 sh_9 rfl rfl (by decide) ⟨rfl, rfl, id⟩ rfl rfl (Nat.le_of_ble_eq_true rfl) (Nat.le_of_ble_eq_true rfl) (v_X5_add a1 a2 _ _ h) ?_
            rintro _ τ13 ⟨r12, rfl, h⟩
            exact u_iret dX10_cutKey_83 ⟨rfl, id⟩ h
          · have h := h.2 c8
            refine v_bipush (v := -15) dX10_cutKey_51 (by decide) ?_
            exact u_iret dX10_cutKey_53 ⟨rfl, id⟩ h
        · have h := h.2 c6
          refine v_iload dX10_cutKey_34 rfl ?_
          exact u_iret dX10_cutKey_36 ⟨rfl, id⟩ h
      · have h := h.2 c3
        refine v_bipush (v := -2) dX10_cutKey_20 (by decide) ?_
        exact u_iret dX10_cutKey_22 ⟨rfl, id⟩ h
def T_X10_key (a1 : Int32) (a2 : Int64) (τ : kT) (post : Int32 → kT → Prop) : Prop := (T_X10_cutKey a1 a2 τ (fun r1 τ2 => (T_X10_settle r1 τ2 (fun r3 τ4 => post r3 τ4))))
set_option maxRecDepth 100000 in
set_option maxHeartbeats 4000000 in
theorem v_X10_key {d : Nat}  (a1 : Int32) (a2 : Int64) (τ : kT) (post : Int32 → kT → Prop) (h : T_X10_key  a1 a2 τ post) : U yX10_key cX10_key 4 (some .int) (d + 5) kE0 0 [some (.ref 0), some (.int a1), some (.long a2), none] [] τ (k_pi post) := by
  unfold T_X10_key at h
  refine v_aload_n dX10_key_0 rfl rfl ?_
  refine v_aload_n dX10_key_1 rfl rfl ?_
  refine v_iload_n dX10_key_2 rfl rfl ?_
  refine v_lload_n dX10_key_3 rfl rfl ?_
  refine u_callV [.int a1, .long a2] mX10_cutKey iX10_cutKey lX10_181 dX10_key_4 sh_0 rfl rfl (by decide) ⟨rfl, rfl, id⟩ rfl rfl (Nat.le_of_ble_eq_true rfl) (Nat.le_of_ble_eq_true rfl) (v_X10_cutKey a1 a2 _ _ h) ?_
  rintro _ τ2 ⟨r1, rfl, h⟩
  refine u_callV [.int r1] mX10_settle iX10_settle lX10_68 dX10_key_7 sh_0 rfl rfl (by decide) ⟨rfl, rfl, id⟩ rfl rfl (Nat.le_of_ble_eq_true rfl) (Nat.le_of_ble_eq_true rfl) (v_X10_settle r1 _ _ h) ?_
  rintro _ τ4 ⟨r3, rfl, h⟩
  exact u_iret dX10_key_10 ⟨rfl, id⟩ h
def T_X5_cutAt (a1 : Int32) (a2 : Int32) (τ : kT) (post : Int32 → kT → Prop) : Prop := (T_X5_hasCut a1 a2 τ (fun r1 τ2 => ((r1 = 0 → post (-1 : Int32) τ2) ∧ (¬ r1 = 0 → (∃ j4 : Nat, ((a1 * (18 : Int32)) + a2) = nI j4 ∧ j4 < 1800 ∧ post (q_i τ2 11 j4) τ2)))))
set_option maxRecDepth 100000 in
set_option maxHeartbeats 4000000 in
theorem v_X5_cutAt {d : Nat}  (a1 : Int32) (a2 : Int32) (τ : kT) (post : Int32 → kT → Prop) (h : T_X5_cutAt  a1 a2 τ post) : U yX5_cutAt cX5_cutAt 3 (some .int) (d + 2) kE0 0 [some (.ref 9), some (.int a1), some (.int a2)] [] τ (k_pi post) := by
  unfold T_X5_cutAt at h
  refine v_aload_n dX5_cutAt_0 rfl rfl ?_
  refine v_iload_n dX5_cutAt_1 rfl rfl ?_
  refine v_iload_n dX5_cutAt_2 rfl rfl ?_
  refine u_callV [.int a1, .int a2] mX5_hasCut iX5_hasCut lX5_36 dX5_cutAt_3 sh_9 rfl rfl (by decide) ⟨rfl, rfl, id⟩ rfl rfl (Nat.le_of_ble_eq_true rfl) (Nat.le_of_ble_eq_true rfl) (v_X5_hasCut a1 a2 _ _ h) ?_
  rintro _ τ2 ⟨r1, rfl, h⟩
  refine v_if_eq (tgt := 23) dX5_cutAt_6 (by decide) (fun c3 => ?_) (fun c3 => ?_)
  · have h := h.1 c3
    refine v_iconst (v := -1) dX5_cutAt_23 (by decide) ?_
    exact u_iret dX5_cutAt_24 ⟨rfl, id⟩ h
  · have h := h.2 c3
    refine v_aload_n dX5_cutAt_9 rfl rfl ?_
    refine u_getr fX5_15 dX5_cutAt_10 sh_9 rfl (by decide) (rf_9_1 _) ?_
    refine v_iload_n dX5_cutAt_13 rfl rfl ?_
    refine v_bipush (v := 18) dX5_cutAt_14 (by decide) ?_
    refine v_imul dX5_cutAt_16 ?_
    refine v_iload_n dX5_cutAt_17 rfl rfl ?_
    refine v_iadd dX5_cutAt_18 ?_
    obtain ⟨j4, e_j4, l_j4, h⟩ := h
    refine u_iald dX5_cutAt_19 sh_11 (by decide) (by decide) e_j4 l_j4 ?_
    refine v_goto (tgt := 24) dX5_cutAt_20 (by decide) ?_
    exact u_iret dX5_cutAt_24 ⟨rfl, id⟩ h
def L_X5_addTurned_9  (f1 : Int32) (f2 : Int32) (f3 : Int32) (K : Int32 → kT → Prop) (post : Int32 → kT → Prop) : Nat → Int32 → kT → Prop
  | 0, _, _ => False
  | n + 1, x4, τ => ((f2 ≤ x4 → K x4 τ) ∧ (¬ f2 ≤ x4 → (T_X5_cutAt f1 ((f2 - (1 : Int32)) - x4) τ (fun r4 τ5 => (T_X5_setCut f3 x4 r4 τ5 (fun τ7 => (∀ v8 : Int32, v8 = x4 + (1 : Int32) → L_X5_addTurned_9 f1 f2 f3 K post n v8 τ7)))))))
def T_X5_addTurned (a1 : Int32) (a2 : Int32) (τ : kT) (post : Int32 → kT → Prop) : Prop := (T_X5_addEmpty a2 τ (fun r1 τ2 => (∃ m9 : Nat, L_X5_addTurned_9  a1 a2 r1 (fun v10 τ11 => post r1 τ11) post m9 (0 : Int32) τ2)))
set_option maxRecDepth 100000 in
set_option maxHeartbeats 4000000 in
theorem l_X5_addTurned_9 {d : Nat}  (f1 : Int32) (f2 : Int32) (f3 : Int32) {K : Int32 → kT → Prop} {post : Int32 → kT → Prop} (hK : ∀ (x4 : Int32) (τ : kT), K x4 τ → U yX5_addTurned cX5_addTurned 5 (some .int) (d + 3) kE0 39 [some (.ref 9), some (.int f1), some (.int f2), some (.int f3), some (.int x4)] [] τ (k_pi post)) : ∀ (n : Nat) (x4 : Int32) (τ : kT), L_X5_addTurned_9  f1 f2 f3 K post n x4 τ → U yX5_addTurned cX5_addTurned 5 (some .int) (d + 3) kE0 9 [some (.ref 9), some (.int f1), some (.int f2), some (.int f3), some (.int x4)] [] τ (k_pi post) := by
  intro n
  induction n with
  | zero => intro x4 τ h; exact h.elim
  | succ n ih =>
    intro x4 τ h
    unfold L_X5_addTurned_9 at h
    refine v_iload dX5_addTurned_9 rfl ?_
    refine v_iload_n dX5_addTurned_11 rfl rfl ?_
    refine v_icmp_ge (tgt := 39) dX5_addTurned_12 (by decide) (fun c3 => ?_) (fun c3 => ?_)
    · have h := h.1 c3
      exact hK x4 _ h
    · have h := h.2 c3
      refine v_aload_n dX5_addTurned_15 rfl rfl ?_
      refine v_iload_n dX5_addTurned_16 rfl rfl ?_
      refine v_iload dX5_addTurned_17 rfl ?_
      refine v_aload_n dX5_addTurned_19 rfl rfl ?_
      refine v_iload_n dX5_addTurned_20 rfl rfl ?_
      refine v_iload_n dX5_addTurned_21 rfl rfl ?_
      refine v_iconst (v := 1) dX5_addTurned_22 (by decide) ?_
      refine v_isub dX5_addTurned_23 ?_
      refine v_iload dX5_addTurned_24 rfl ?_
      refine v_isub dX5_addTurned_26 ?_
      refine u_callV [.int f1, .int ((f2 - (1 : Int32)) - x4)] mX5_cutAt iX5_cutAt lX5_50 dX5_addTurned_27 sh_9 rfl rfl (by decide) ⟨rfl, rfl, id⟩ rfl rfl (Nat.le_of_ble_eq_true rfl) (Nat.le_of_ble_eq_true rfl) (v_X5_cutAt f1 ((f2 - (1 : Int32)) - x4) _ _ h) ?_
      rintro _ τ5 ⟨r4, rfl, h⟩
      refine u_callV [.int f3, .int x4, .int r4] mX5_setCut iX5_setCut lX5_46 dX5_addTurned_30 sh_9 rfl rfl (by decide) ⟨rfl, rfl, id⟩ rfl rfl (Nat.le_of_ble_eq_true rfl) (Nat.le_of_ble_eq_true rfl) (v_X5_setCut f3 x4 r4 _ _ h) ?_
      rintro _ τ7 ⟨rfl, h⟩
      obtain ⟨v8, e_v8⟩ : ∃ z : Int32, z = x4 + (1 : Int32) := ⟨_, rfl⟩
      have h := h v8 e_v8
      refine v_iinc (v := v8) dX5_addTurned_33 rfl (by rw [e_v8]; rfl) (by decide) rfl ?_
      refine v_ls (ls2 := [some (.ref 9), some (.int f1), some (.int f2), some (.int f3), some (.int v8)]) rfl ?_
      refine v_goto (tgt := 9) dX5_addTurned_36 (by decide) ?_
      exact ih v8 _ h
set_option maxRecDepth 100000 in
set_option maxHeartbeats 4000000 in
theorem v_X5_addTurned {d : Nat}  (a1 : Int32) (a2 : Int32) (τ : kT) (post : Int32 → kT → Prop) (h : T_X5_addTurned  a1 a2 τ post) : U yX5_addTurned cX5_addTurned 5 (some .int) (d + 3) kE0 0 [some (.ref 9), some (.int a1), some (.int a2), none, none] [] τ (k_pi post) := by
  unfold T_X5_addTurned at h
  refine v_aload_n dX5_addTurned_0 rfl rfl ?_
  refine v_iload_n dX5_addTurned_1 rfl rfl ?_
  refine u_callV [.int a2] mX5_addEmpty iX5_addEmpty lX5_40 dX5_addTurned_2 sh_9 rfl rfl (by decide) ⟨rfl, rfl, id⟩ rfl rfl (Nat.le_of_ble_eq_true rfl) (Nat.le_of_ble_eq_true rfl) (v_X5_addEmpty a2 _ _ h) ?_
  rintro _ τ2 ⟨r1, rfl, h⟩
  refine v_istore_n dX5_addTurned_5 rfl (by decide) rfl ?_
  refine v_ls (ls2 := [some (.ref 9), some (.int a1), some (.int a2), some (.int r1), none]) rfl ?_
  refine v_iconst (v := 0) dX5_addTurned_6 (by decide) ?_
  refine v_istore dX5_addTurned_7 (by decide) rfl ?_
  refine v_ls (ls2 := [some (.ref 9), some (.int a1), some (.int a2), some (.int r1), some (.int (0 : Int32))]) rfl ?_
  obtain ⟨m9, h⟩ := h
  refine l_X5_addTurned_9  a1 a2 r1 (fun v10 τ11 h => ?_) m9 (0 : Int32) _ h
  refine v_iload_n dX5_addTurned_39 rfl rfl ?_
  exact u_iret dX5_addTurned_40 ⟨rfl, id⟩ h
def T_X10_cutTurned (a1 : Int32) (a2 : Int32) (τ : kT) (post : Int32 → kT → Prop) : Prop := (T_X5_has a1 τ (fun r1 τ2 => ((r1 = 0 → post (-2 : Int32) τ2) ∧ (¬ r1 = 0 → ((a2 ≤ (18 : Int32) → (T_X10_cuttingRefusal  τ2 (fun r5 τ6 => ((r5 = 0 → (∀ τ8 : kT, τ8 = q_si τ6 0 3 ((q_i τ6 0 3) + (1 : Int32)) → ((0 ≤ a2 → (∃ j10 : Nat, a1 = nI j10 ∧ j10 < 100 ∧ ((a2 ≤ (q_i τ8 10 j10) → (T_X10_remember  τ8 (fun τ13 => (∀ τ14 : kT, τ14 = q_si τ13 1 6 ((q_i τ13 1 6) - (1 : Int32)) → (T_X5_addTurned a1 a2 τ14 (fun r15 τ16 => post r15 τ16)))))) ∧ (¬ a2 ≤ (q_i τ8 10 j10) → post (-12 : Int32) τ8)))) ∧ (¬ 0 ≤ a2 → post (-15 : Int32) τ8)))) ∧ (¬ r5 = 0 → post r5 τ6))))) ∧ (¬ a2 ≤ (18 : Int32) → post (-2 : Int32) τ2))))))
set_option maxRecDepth 100000 in
set_option maxHeartbeats 4000000 in
theorem v_X10_cutTurned {d : Nat}  (a1 : Int32) (a2 : Int32) (τ : kT) (post : Int32 → kT → Prop) (h : T_X10_cutTurned  a1 a2 τ post) : U yX10_cutTurned cX10_cutTurned 4 (some .int) (d + 4) kE0 0 [some (.ref 0), some (.int a1), some (.int a2), none] [] τ (k_pi post) := by
  unfold T_X10_cutTurned at h
  refine v_aload_n dX10_cutTurned_0 rfl rfl ?_
  refine u_getr fX10_10 dX10_cutTurned_1 sh_0 rfl (by decide) (rf_0_0 _) ?_
  refine u_getr fX10_191 dX10_cutTurned_4 sh_1 rfl (by decide) (rf_1_1 _) ?_
  refine v_iload_n dX10_cutTurned_7 rfl rfl ?_
  refine u_callV [.int a1] mX5_has iX5_has lX10_202 dX10_cutTurned_8 sh_9 rfl rfl (by decide) ⟨rfl, rfl, id⟩ rfl rfl (Nat.le_of_ble_eq_true rfl) (Nat.le_of_ble_eq_true rfl) (v_X5_has a1 _ _ h) ?_
  rintro _ τ2 ⟨r1, rfl, h⟩
  refine v_if_eq (tgt := 20) dX10_cutTurned_11 (by decide) (fun c3 => ?_) (fun c3 => ?_)
  · have h := h.1 c3
    refine v_bipush (v := -2) dX10_cutTurned_20 (by decide) ?_
    exact u_iret dX10_cutTurned_22 ⟨rfl, id⟩ h
  · have h := h.2 c3
    refine v_iload_n dX10_cutTurned_14 rfl rfl ?_
    refine v_bipush (v := 18) dX10_cutTurned_15 (by decide) ?_
    refine v_icmp_le (tgt := 23) dX10_cutTurned_17 (by decide) (fun c4 => ?_) (fun c4 => ?_)
    · have h := h.1 c4
      refine v_aload_n dX10_cutTurned_23 rfl rfl ?_
      refine u_callV [] mX10_cuttingRefusal iX10_cuttingRefusal lX10_187 dX10_cutTurned_24 sh_0 rfl rfl (by decide) ⟨rfl, rfl, id⟩ rfl rfl (Nat.le_of_ble_eq_true rfl) (Nat.le_of_ble_eq_true rfl) (v_X10_cuttingRefusal  _ _ h) ?_
      rintro _ τ6 ⟨r5, rfl, h⟩
      refine v_istore_n dX10_cutTurned_27 rfl (by decide) rfl ?_
      refine v_ls (ls2 := [some (.ref 0), some (.int a1), some (.int a2), some (.int r5)]) rfl ?_
      refine v_iload_n dX10_cutTurned_28 rfl rfl ?_
      refine v_if_eq (tgt := 34) dX10_cutTurned_29 (by decide) (fun c7 => ?_) (fun c7 => ?_)
      · have h := h.1 c7
        refine v_aload_n dX10_cutTurned_34 rfl rfl ?_
        refine v_dup dX10_cutTurned_35 rfl ?_
        refine u_geti fX10_23 dX10_cutTurned_36 sh_0 rfl (by decide) ?_
        refine v_iconst (v := 1) dX10_cutTurned_39 (by decide) ?_
        refine v_iadd dX10_cutTurned_40 ?_
        refine u_puti pX10_23 ⟨_, rfl⟩ dX10_cutTurned_41 sh_0 rfl (by decide) (by decide) (fun τ8 e_τ8 => ?_)
        have h := h τ8 e_τ8
        refine v_iload_n dX10_cutTurned_44 rfl rfl ?_
        refine v_if_ge (tgt := 51) dX10_cutTurned_45 (by decide) (fun c9 => ?_) (fun c9 => ?_)
        · have h := h.1 c9
          refine v_iload_n dX10_cutTurned_51 rfl rfl ?_
          refine v_aload_n dX10_cutTurned_52 rfl rfl ?_
          refine u_getr fX10_10 dX10_cutTurned_53 sh_0 rfl (by decide) (rf_0_0 _) ?_
          refine u_getr fX10_191 dX10_cutTurned_56 sh_1 rfl (by decide) (rf_1_1 _) ?_
          refine u_getr fX10_203 dX10_cutTurned_59 sh_9 rfl (by decide) (rf_9_0 _) ?_
          refine v_iload_n dX10_cutTurned_62 rfl rfl ?_
          obtain ⟨j10, e_j10, l_j10, h⟩ := h
          refine u_iald dX10_cutTurned_63 sh_10 (by decide) (by decide) e_j10 l_j10 ?_
          refine v_icmp_le (tgt := 70) dX10_cutTurned_64 (by decide) (fun c11 => ?_) (fun c11 => ?_)
          · have h := h.1 c11
            refine v_aload_n dX10_cutTurned_70 rfl rfl ?_
            refine u_callV [] mX10_remember iX10_remember lX10_81 dX10_cutTurned_71 sh_0 rfl rfl (by decide) ⟨rfl, rfl, id⟩ rfl rfl (Nat.le_of_ble_eq_true rfl) (Nat.le_of_ble_eq_true rfl) (v_X10_remember  _ _ h) ?_
            rintro _ τ13 ⟨rfl, h⟩
            refine v_aload_n dX10_cutTurned_74 rfl rfl ?_
            refine u_getr fX10_10 dX10_cutTurned_75 sh_0 rfl (by decide) (rf_0_0 _) ?_
            refine v_dup dX10_cutTurned_78 rfl ?_
            refine u_geti fX10_178 dX10_cutTurned_79 sh_1 rfl (by decide) ?_
            refine v_iconst (v := 1) dX10_cutTurned_82 (by decide) ?_
            refine v_isub dX10_cutTurned_83 ?_
            refine u_puti pX10_178 ⟨_, rfl⟩ dX10_cutTurned_84 sh_1 rfl (by decide) (by decide) (fun τ14 e_τ14 => ?_)
            have h := h τ14 e_τ14
            refine v_aload_n dX10_cutTurned_87 rfl rfl ?_
            refine u_getr fX10_10 dX10_cutTurned_88 sh_0 rfl (by decide) (rf_0_0 _) ?_
            refine u_getr fX10_191 dX10_cutTurned_91 sh_1 rfl (by decide) (rf_1_1 _) ?_
            refine v_iload_n dX10_cutTurned_94 rfl rfl ?_
            refine v_iload_n dX10_cutTurned_95 rfl rfl ?_
            refine u_callV [.int a1, .int a2] mX5_addTurned iX5_addTurned lX10_206 dX10_cutTurned_96 sh_9 rfl rfl (by decide) ⟨rfl, rfl, id⟩ rfl rfl (Nat.le_of_ble_eq_true rfl) (Nat.le_of_ble_eq_true rfl) (v_X5_addTurned a1 a2 _ _ h) ?_
            rintro _ τ16 ⟨r15, rfl, h⟩
            exact u_iret dX10_cutTurned_99 ⟨rfl, id⟩ h
          · have h := h.2 c11
            refine v_bipush (v := -12) dX10_cutTurned_67 (by decide) ?_
            exact u_iret dX10_cutTurned_69 ⟨rfl, id⟩ h
        · have h := h.2 c9
          refine v_bipush (v := -15) dX10_cutTurned_48 (by decide) ?_
          exact u_iret dX10_cutTurned_50 ⟨rfl, id⟩ h
      · have h := h.2 c7
        refine v_iload_n dX10_cutTurned_32 rfl rfl ?_
        exact u_iret dX10_cutTurned_33 ⟨rfl, id⟩ h
    · have h := h.2 c4
      refine v_bipush (v := -2) dX10_cutTurned_20 (by decide) ?_
      exact u_iret dX10_cutTurned_22 ⟨rfl, id⟩ h
def T_X10_turned (a1 : Int32) (a2 : Int32) (τ : kT) (post : Int32 → kT → Prop) : Prop := (T_X10_cutTurned a1 a2 τ (fun r1 τ2 => (T_X10_settle r1 τ2 (fun r3 τ4 => post r3 τ4))))
set_option maxRecDepth 100000 in
set_option maxHeartbeats 4000000 in
theorem v_X10_turned {d : Nat}  (a1 : Int32) (a2 : Int32) (τ : kT) (post : Int32 → kT → Prop) (h : T_X10_turned  a1 a2 τ post) : U yX10_turned cX10_turned 3 (some .int) (d + 5) kE0 0 [some (.ref 0), some (.int a1), some (.int a2)] [] τ (k_pi post) := by
  unfold T_X10_turned at h
  refine v_aload_n dX10_turned_0 rfl rfl ?_
  refine v_aload_n dX10_turned_1 rfl rfl ?_
  refine v_iload_n dX10_turned_2 rfl rfl ?_
  refine v_iload_n dX10_turned_3 rfl rfl ?_
  refine u_callV [.int a1, .int a2] mX10_cutTurned iX10_cutTurned lX10_199 dX10_turned_4 sh_0 rfl rfl (by decide) ⟨rfl, rfl, id⟩ rfl rfl (Nat.le_of_ble_eq_true rfl) (Nat.le_of_ble_eq_true rfl) (v_X10_cutTurned a1 a2 _ _ h) ?_
  rintro _ τ2 ⟨r1, rfl, h⟩
  refine u_callV [.int r1] mX10_settle iX10_settle lX10_68 dX10_turned_7 sh_0 rfl rfl (by decide) ⟨rfl, rfl, id⟩ rfl rfl (Nat.le_of_ble_eq_true rfl) (Nat.le_of_ble_eq_true rfl) (v_X10_settle r1 _ _ h) ?_
  rintro _ τ4 ⟨r3, rfl, h⟩
  exact u_iret dX10_turned_10 ⟨rfl, id⟩ h
def T_X10_cut (a1 : Int32) (a2 : Int32) (τ : kT) (post : Int32 → kT → Prop) : Prop := (T_X5_has a1 τ (fun r1 τ2 => ((¬ r1 = 0 → (T_X5_hasCut a1 a2 τ2 (fun r4 τ5 => ((r4 = 0 → (T_X10_settle (-12 : Int32) τ5 (fun r7 τ8 => post r7 τ8))) ∧ (¬ r4 = 0 → (T_X5_cutAt a1 a2 τ5 (fun r9 τ10 => (T_X10_settle r9 τ10 (fun r11 τ12 => post r11 τ12))))))))) ∧ (r1 = 0 → post (-2 : Int32) τ2))))
set_option maxRecDepth 100000 in
set_option maxHeartbeats 4000000 in
theorem v_X10_cut {d : Nat}  (a1 : Int32) (a2 : Int32) (τ : kT) (post : Int32 → kT → Prop) (h : T_X10_cut  a1 a2 τ post) : U yX10_cut cX10_cut 3 (some .int) (d + 3) kE0 0 [some (.ref 0), some (.int a1), some (.int a2)] [] τ (k_pi post) := by
  unfold T_X10_cut at h
  refine v_aload_n dX10_cut_0 rfl rfl ?_
  refine u_getr fX10_10 dX10_cut_1 sh_0 rfl (by decide) (rf_0_0 _) ?_
  refine u_getr fX10_191 dX10_cut_4 sh_1 rfl (by decide) (rf_1_1 _) ?_
  refine v_iload_n dX10_cut_7 rfl rfl ?_
  refine u_callV [.int a1] mX5_has iX5_has lX10_202 dX10_cut_8 sh_9 rfl rfl (by decide) ⟨rfl, rfl, id⟩ rfl rfl (Nat.le_of_ble_eq_true rfl) (Nat.le_of_ble_eq_true rfl) (v_X5_has a1 _ _ h) ?_
  rintro _ τ2 ⟨r1, rfl, h⟩
  refine v_if_ne (tgt := 17) dX10_cut_11 (by decide) (fun c3 => ?_) (fun c3 => ?_)
  · have h := h.1 c3
    refine v_aload_n dX10_cut_17 rfl rfl ?_
    refine v_aload_n dX10_cut_18 rfl rfl ?_
    refine u_getr fX10_10 dX10_cut_19 sh_0 rfl (by decide) (rf_0_0 _) ?_
    refine u_getr fX10_191 dX10_cut_22 sh_1 rfl (by decide) (rf_1_1 _) ?_
    refine v_iload_n dX10_cut_25 rfl rfl ?_
    refine v_iload_n dX10_cut_26 rfl rfl ?_
    refine u_callV [.int a1, .int a2] mX5_hasCut iX5_hasCut lX10_210 dX10_cut_27 sh_9 rfl rfl (by decide) ⟨rfl, rfl, id⟩ rfl rfl (Nat.le_of_ble_eq_true rfl) (Nat.le_of_ble_eq_true rfl) (v_X5_hasCut a1 a2 _ _ h) ?_
    rintro _ τ5 ⟨r4, rfl, h⟩
    refine v_if_eq (tgt := 48) dX10_cut_30 (by decide) (fun c6 => ?_) (fun c6 => ?_)
    · have h := h.1 c6
      refine v_bipush (v := -12) dX10_cut_48 (by decide) ?_
      refine u_callV [.int (-12 : Int32)] mX10_settle iX10_settle lX10_68 dX10_cut_50 sh_0 rfl rfl (by decide) ⟨rfl, rfl, id⟩ rfl rfl (Nat.le_of_ble_eq_true rfl) (Nat.le_of_ble_eq_true rfl) (v_X10_settle (-12 : Int32) _ _ h) ?_
      rintro _ τ8 ⟨r7, rfl, h⟩
      exact u_iret dX10_cut_53 ⟨rfl, id⟩ h
    · have h := h.2 c6
      refine v_aload_n dX10_cut_33 rfl rfl ?_
      refine u_getr fX10_10 dX10_cut_34 sh_0 rfl (by decide) (rf_0_0 _) ?_
      refine u_getr fX10_191 dX10_cut_37 sh_1 rfl (by decide) (rf_1_1 _) ?_
      refine v_iload_n dX10_cut_40 rfl rfl ?_
      refine v_iload_n dX10_cut_41 rfl rfl ?_
      refine u_callV [.int a1, .int a2] mX5_cutAt iX5_cutAt lX10_214 dX10_cut_42 sh_9 rfl rfl (by decide) ⟨rfl, rfl, id⟩ rfl rfl (Nat.le_of_ble_eq_true rfl) (Nat.le_of_ble_eq_true rfl) (v_X5_cutAt a1 a2 _ _ h) ?_
      rintro _ τ10 ⟨r9, rfl, h⟩
      refine v_goto (tgt := 50) dX10_cut_45 (by decide) ?_
      refine u_callV [.int r9] mX10_settle iX10_settle lX10_68 dX10_cut_50 sh_0 rfl rfl (by decide) ⟨rfl, rfl, id⟩ rfl rfl (Nat.le_of_ble_eq_true rfl) (Nat.le_of_ble_eq_true rfl) (v_X10_settle r9 _ _ h) ?_
      rintro _ τ12 ⟨r11, rfl, h⟩
      exact u_iret dX10_cut_53 ⟨rfl, id⟩ h
  · have h := h.2 c3
    refine v_bipush (v := -2) dX10_cut_14 (by decide) ?_
    exact u_iret dX10_cut_16 ⟨rfl, id⟩ h
def T_X10_length (a1 : Int32) (τ : kT) (post : Int32 → kT → Prop) : Prop := (T_X5_has a1 τ (fun r1 τ2 => ((r1 = 0 → post (-2 : Int32) τ2) ∧ (¬ r1 = 0 → (∃ j4 : Nat, a1 = nI j4 ∧ j4 < 100 ∧ post (q_i τ2 10 j4) τ2)))))
set_option maxRecDepth 100000 in
set_option maxHeartbeats 4000000 in
theorem v_X10_length {d : Nat}  (a1 : Int32) (τ : kT) (post : Int32 → kT → Prop) (h : T_X10_length  a1 τ post) : U yX10_length cX10_length 2 (some .int) (d + 1) kE0 0 [some (.ref 0), some (.int a1)] [] τ (k_pi post) := by
  unfold T_X10_length at h
  refine v_aload_n dX10_length_0 rfl rfl ?_
  refine u_getr fX10_10 dX10_length_1 sh_0 rfl (by decide) (rf_0_0 _) ?_
  refine u_getr fX10_191 dX10_length_4 sh_1 rfl (by decide) (rf_1_1 _) ?_
  refine v_iload_n dX10_length_7 rfl rfl ?_
  refine u_callV [.int a1] mX5_has iX5_has lX10_202 dX10_length_8 sh_9 rfl rfl (by decide) ⟨rfl, rfl, id⟩ rfl rfl (Nat.le_of_ble_eq_true rfl) (Nat.le_of_ble_eq_true rfl) (v_X5_has a1 _ _ h) ?_
  rintro _ τ2 ⟨r1, rfl, h⟩
  refine v_if_eq (tgt := 29) dX10_length_11 (by decide) (fun c3 => ?_) (fun c3 => ?_)
  · have h := h.1 c3
    refine v_bipush (v := -2) dX10_length_29 (by decide) ?_
    exact u_iret dX10_length_31 ⟨rfl, id⟩ h
  · have h := h.2 c3
    refine v_aload_n dX10_length_14 rfl rfl ?_
    refine u_getr fX10_10 dX10_length_15 sh_0 rfl (by decide) (rf_0_0 _) ?_
    refine u_getr fX10_191 dX10_length_18 sh_1 rfl (by decide) (rf_1_1 _) ?_
    refine u_getr fX10_203 dX10_length_21 sh_9 rfl (by decide) (rf_9_0 _) ?_
    refine v_iload_n dX10_length_24 rfl rfl ?_
    obtain ⟨j4, e_j4, l_j4, h⟩ := h
    refine u_iald dX10_length_25 sh_10 (by decide) (by decide) e_j4 l_j4 ?_
    refine v_goto (tgt := 31) dX10_length_26 (by decide) ?_
    exact u_iret dX10_length_31 ⟨rfl, id⟩ h
def T_X8_begin  (τ : kT) (post : kT → Prop) : Prop := (T_X7_begin  τ (fun τ2 => (∀ τ3 : kT, τ3 = q_si τ2 39 1 (-1 : Int32) → post τ3)))
set_option maxRecDepth 100000 in
set_option maxHeartbeats 4000000 in
theorem v_X8_begin {d : Nat}   (τ : kT) (post : kT → Prop) (h : T_X8_begin   τ post) : U yX8_begin cX8_begin 1 none (d + 1) kE0 0 [some (.ref 39)] [] τ (k_pv post) := by
  unfold T_X8_begin at h
  refine v_aload_n dX8_begin_0 rfl rfl ?_
  refine u_getr fX8_12 dX8_begin_1 sh_39 rfl (by decide) (rf_39_0 _) ?_
  refine u_callV [] mX7_begin iX7_begin lX8_22 dX8_begin_4 sh_40 rfl rfl (by decide) ⟨rfl, rfl, id⟩ rfl rfl (Nat.le_of_ble_eq_true rfl) (Nat.le_of_ble_eq_true rfl) (v_X7_begin  _ _ h) ?_
  rintro _ τ2 ⟨rfl, h⟩
  refine v_aload_n dX8_begin_7 rfl rfl ?_
  refine v_iconst (v := -1) dX8_begin_8 (by decide) ?_
  refine u_puti pX8_18 ⟨_, rfl⟩ dX8_begin_9 sh_39 rfl (by decide) (by decide) (fun τ3 e_τ3 => ?_)
  have h := h τ3 e_τ3
  exact u_vret dX8_begin_12 ⟨rfl, id⟩ h
def L_X8_tryRow_25  (f2 : Int32) (f3 : Int32) (f4 : Int32) (f5 : Int32) (f6 : Int32) (K : Int32 → kT → Prop) (post : Int32 → kT → Prop) : Nat → Int32 → kT → Prop
  | 0, _, _ => False
  | n + 1, x7, τ => ((f5 ≤ x7 → K x7 τ) ∧ (¬ f5 ≤ x7 → (∃ j6 : Nat, ((f3 * (18 : Int32)) + x7) = nI j6 ∧ j6 < 1800 ∧ (∀ v7 : Int32, v7 = (q_i τ 5 j6) → ((¬ v7 = 0 → ((x7 < f6 → (∃ j10 : Nat, ((f2 * (18 : Int32)) + x7) = nI j10 ∧ j10 < 1800 ∧ ((¬ (v7 &&& ((1 : Int32) <<< ((q_i τ 11 j10) &&& 31))) = 0 → (∀ v12 : Int32, v12 = x7 + (1 : Int32) → L_X8_tryRow_25 f2 f3 f4 f5 f6 K post n v12 τ)) ∧ ((v7 &&& ((1 : Int32) <<< ((q_i τ 11 j10) &&& 31))) = 0 → (∀ τ13 : kT, τ13 = q_si τ 39 1 (f4 + x7) → post (0 : Int32) τ13))))) ∧ (¬ x7 < f6 → (∀ τ14 : kT, τ14 = q_si τ 39 1 (f4 + x7) → post (-12 : Int32) τ14)))) ∧ (v7 = 0 → (∀ v15 : Int32, v15 = x7 + (1 : Int32) → L_X8_tryRow_25 f2 f3 f4 f5 f6 K post n v15 τ)))))))
def T_X8_tryRow (a1 : Int32) (a2 : Int32) (a3 : Int32) (τ : kT) (post : Int32 → kT → Prop) : Prop := (∃ j1 : Nat, a2 = nI j1 ∧ j1 < 100 ∧ (∀ v2 : Int32, v2 = (q_i τ 4 j1) → (∃ j3 : Nat, a1 = nI j3 ∧ j3 < 100 ∧ (∀ v4 : Int32, v4 = (q_i τ 10 j3) → (∃ m16 : Nat, L_X8_tryRow_25  a1 a2 a3 v2 v4 (fun v17 τ18 => post (1 : Int32) τ18) post m16 (0 : Int32) τ)))))
set_option maxRecDepth 100000 in
set_option maxHeartbeats 4000000 in
theorem l_X8_tryRow_25 {d : Nat}  (f2 : Int32) (f3 : Int32) (f4 : Int32) (f5 : Int32) (f6 : Int32) {K : Int32 → kT → Prop} {post : Int32 → kT → Prop} (hK : ∀ (x7 : Int32) (τ : kT), K x7 τ → U yX8_tryRow cX8_tryRow 9 (some .int) (d + 0) kE0 116 [some (.ref 39), some (.ref 1), some (.int f2), some (.int f3), some (.int f4), some (.int f5), some (.int f6), some (.int x7), none] [] τ (k_pi post)) : ∀ (n : Nat) (x7 : Int32) (τ : kT), L_X8_tryRow_25  f2 f3 f4 f5 f6 K post n x7 τ → U yX8_tryRow cX8_tryRow 9 (some .int) (d + 0) kE0 25 [some (.ref 39), some (.ref 1), some (.int f2), some (.int f3), some (.int f4), some (.int f5), some (.int f6), some (.int x7), none] [] τ (k_pi post) := by
  intro n
  induction n with
  | zero => intro x7 τ h; exact h.elim
  | succ n ih =>
    intro x7 τ h
    unfold L_X8_tryRow_25 at h
    refine v_iload dX8_tryRow_25 rfl ?_
    refine v_iload dX8_tryRow_27 rfl ?_
    refine v_icmp_ge (tgt := 116) dX8_tryRow_29 (by decide) (fun c5 => ?_) (fun c5 => ?_)
    · have h := h.1 c5
      exact hK x7 _ h
    · have h := h.2 c5
      refine v_aload_n dX8_tryRow_32 rfl rfl ?_
      refine u_getr fX8_25 dX8_tryRow_33 sh_1 rfl (by decide) (rf_1_0 _) ?_
      refine u_getr fX8_80 dX8_tryRow_36 sh_2 rfl (by decide) (rf_2_2 _) ?_
      refine v_iload_n dX8_tryRow_39 rfl rfl ?_
      refine v_bipush (v := 18) dX8_tryRow_40 (by decide) ?_
      refine v_imul dX8_tryRow_42 ?_
      refine v_iload dX8_tryRow_43 rfl ?_
      refine v_iadd dX8_tryRow_45 ?_
      obtain ⟨j6, e_j6, l_j6, h⟩ := h
      refine u_iald dX8_tryRow_46 sh_5 (by decide) (by decide) e_j6 l_j6 ?_
      refine v_topi (fun v7 e_v7 => ?_)
      have h := h v7 e_v7
      refine v_istore dX8_tryRow_47 (by decide) rfl ?_
      refine v_ls (ls2 := [some (.ref 39), some (.ref 1), some (.int f2), some (.int f3), some (.int f4), some (.int f5), some (.int f6), some (.int x7), some (.int v7)]) rfl ?_
      refine v_iload dX8_tryRow_49 rfl ?_
      refine v_if_ne (tgt := 57) dX8_tryRow_51 (by decide) (fun c8 => ?_) (fun c8 => ?_)
      · have h := h.1 c8
        refine v_iload dX8_tryRow_57 rfl ?_
        refine v_iload dX8_tryRow_59 rfl ?_
        refine v_icmp_lt (tgt := 76) dX8_tryRow_61 (by decide) (fun c9 => ?_) (fun c9 => ?_)
        · have h := h.1 c9
          refine v_iload dX8_tryRow_76 rfl ?_
          refine v_iconst (v := 1) dX8_tryRow_78 (by decide) ?_
          refine v_aload_n dX8_tryRow_79 rfl rfl ?_
          refine u_getr fX8_71 dX8_tryRow_80 sh_1 rfl (by decide) (rf_1_1 _) ?_
          refine u_getr fX8_83 dX8_tryRow_83 sh_9 rfl (by decide) (rf_9_1 _) ?_
          refine v_iload_n dX8_tryRow_86 rfl rfl ?_
          refine v_bipush (v := 18) dX8_tryRow_87 (by decide) ?_
          refine v_imul dX8_tryRow_89 ?_
          refine v_iload dX8_tryRow_90 rfl ?_
          refine v_iadd dX8_tryRow_92 ?_
          obtain ⟨j10, e_j10, l_j10, h⟩ := h
          refine u_iald dX8_tryRow_93 sh_11 (by decide) (by decide) e_j10 l_j10 ?_
          refine v_ishl dX8_tryRow_94 ?_
          refine v_iand dX8_tryRow_95 ?_
          refine v_if_ne (tgt := 110) dX8_tryRow_96 (by decide) (fun c11 => ?_) (fun c11 => ?_)
          · have h := h.1 c11
            obtain ⟨v12, e_v12⟩ : ∃ z : Int32, z = x7 + (1 : Int32) := ⟨_, rfl⟩
            have h := h v12 e_v12
            refine v_iinc (v := v12) dX8_tryRow_110 rfl (by rw [e_v12]; rfl) (by decide) rfl ?_
            refine v_ls (ls2 := [some (.ref 39), some (.ref 1), some (.int f2), some (.int f3), some (.int f4), some (.int f5), some (.int f6), some (.int v12), some (.int v7)]) rfl ?_
            refine v_goto (tgt := 25) dX8_tryRow_113 (by decide) ?_
            refine v_none 8 ?_
            refine v_ls (ls2 := [some (.ref 39), some (.ref 1), some (.int f2), some (.int f3), some (.int f4), some (.int f5), some (.int f6), some (.int v12), none]) rfl ?_
            exact ih v12 _ h
          · have h := h.2 c11
            refine v_aload_n dX8_tryRow_99 rfl rfl ?_
            refine v_iload dX8_tryRow_100 rfl ?_
            refine v_iload dX8_tryRow_102 rfl ?_
            refine v_iadd dX8_tryRow_104 ?_
            refine u_puti pX8_18 ⟨_, rfl⟩ dX8_tryRow_105 sh_39 rfl (by decide) (by decide) (fun τ13 e_τ13 => ?_)
            have h := h τ13 e_τ13
            refine v_iconst (v := 0) dX8_tryRow_108 (by decide) ?_
            exact u_iret dX8_tryRow_109 ⟨rfl, id⟩ h
        · have h := h.2 c9
          refine v_aload_n dX8_tryRow_64 rfl rfl ?_
          refine v_iload dX8_tryRow_65 rfl ?_
          refine v_iload dX8_tryRow_67 rfl ?_
          refine v_iadd dX8_tryRow_69 ?_
          refine u_puti pX8_18 ⟨_, rfl⟩ dX8_tryRow_70 sh_39 rfl (by decide) (by decide) (fun τ14 e_τ14 => ?_)
          have h := h τ14 e_τ14
          refine v_bipush (v := -12) dX8_tryRow_73 (by decide) ?_
          exact u_iret dX8_tryRow_75 ⟨rfl, id⟩ h
      · have h := h.2 c8
        refine v_goto (tgt := 110) dX8_tryRow_54 (by decide) ?_
        obtain ⟨v15, e_v15⟩ : ∃ z : Int32, z = x7 + (1 : Int32) := ⟨_, rfl⟩
        have h := h v15 e_v15
        refine v_iinc (v := v15) dX8_tryRow_110 rfl (by rw [e_v15]; rfl) (by decide) rfl ?_
        refine v_ls (ls2 := [some (.ref 39), some (.ref 1), some (.int f2), some (.int f3), some (.int f4), some (.int f5), some (.int f6), some (.int v15), some (.int v7)]) rfl ?_
        refine v_goto (tgt := 25) dX8_tryRow_113 (by decide) ?_
        refine v_none 8 ?_
        refine v_ls (ls2 := [some (.ref 39), some (.ref 1), some (.int f2), some (.int f3), some (.int f4), some (.int f5), some (.int f6), some (.int v15), none]) rfl ?_
        exact ih v15 _ h
set_option maxRecDepth 100000 in
set_option maxHeartbeats 4000000 in
theorem v_X8_tryRow {d : Nat}  (a1 : Int32) (a2 : Int32) (a3 : Int32) (τ : kT) (post : Int32 → kT → Prop) (h : T_X8_tryRow  a1 a2 a3 τ post) : U yX8_tryRow cX8_tryRow 9 (some .int) (d + 0) kE0 0 [some (.ref 39), some (.ref 1), some (.int a1), some (.int a2), some (.int a3), none, none, none, none] [] τ (k_pi post) := by
  unfold T_X8_tryRow at h
  refine v_aload_n dX8_tryRow_0 rfl rfl ?_
  refine u_getr fX8_25 dX8_tryRow_1 sh_1 rfl (by decide) (rf_1_0 _) ?_
  refine u_getr fX8_68 dX8_tryRow_4 sh_2 rfl (by decide) (rf_2_1 _) ?_
  refine v_iload_n dX8_tryRow_7 rfl rfl ?_
  obtain ⟨j1, e_j1, l_j1, h⟩ := h
  refine u_iald dX8_tryRow_8 sh_4 (by decide) (by decide) e_j1 l_j1 ?_
  refine v_topi (fun v2 e_v2 => ?_)
  have h := h v2 e_v2
  refine v_istore dX8_tryRow_9 (by decide) rfl ?_
  refine v_ls (ls2 := [some (.ref 39), some (.ref 1), some (.int a1), some (.int a2), some (.int a3), some (.int v2), none, none, none]) rfl ?_
  refine v_aload_n dX8_tryRow_11 rfl rfl ?_
  refine u_getr fX8_71 dX8_tryRow_12 sh_1 rfl (by decide) (rf_1_1 _) ?_
  refine u_getr fX8_75 dX8_tryRow_15 sh_9 rfl (by decide) (rf_9_0 _) ?_
  refine v_iload_n dX8_tryRow_18 rfl rfl ?_
  obtain ⟨j3, e_j3, l_j3, h⟩ := h
  refine u_iald dX8_tryRow_19 sh_10 (by decide) (by decide) e_j3 l_j3 ?_
  refine v_topi (fun v4 e_v4 => ?_)
  have h := h v4 e_v4
  refine v_istore dX8_tryRow_20 (by decide) rfl ?_
  refine v_ls (ls2 := [some (.ref 39), some (.ref 1), some (.int a1), some (.int a2), some (.int a3), some (.int v2), some (.int v4), none, none]) rfl ?_
  refine v_iconst (v := 0) dX8_tryRow_22 (by decide) ?_
  refine v_istore dX8_tryRow_23 (by decide) rfl ?_
  refine v_ls (ls2 := [some (.ref 39), some (.ref 1), some (.int a1), some (.int a2), some (.int a3), some (.int v2), some (.int v4), some (.int (0 : Int32)), none]) rfl ?_
  obtain ⟨m16, h⟩ := h
  refine l_X8_tryRow_25  a1 a2 a3 v2 v4 (fun v17 τ18 h => ?_) m16 (0 : Int32) _ h
  refine v_iconst (v := 1) dX8_tryRow_116 (by decide) ?_
  exact u_iret dX8_tryRow_117 ⟨rfl, id⟩ h
def T_X8_trySingle (a1 : Int32) (a2 : Int32) (a3 : Int32) (τ : kT) (post : Int32 → kT → Prop) : Prop := (T_X4_has a2 τ (fun r1 τ2 => ((¬ r1 = 0 → (T_X4_isBlind a2 τ2 (fun r4 τ5 => ((r4 = 0 → (T_X4_isOf a2 (1 : Int32) τ5 (fun r7 τ8 => ((r7 = 0 → (T_X7_add (1 : Int32) τ8 (fun τ11 => (T_X4_isOut a2 τ11 (fun r12 τ13 => ((r12 = 0 → (T_X8_tryRow a1 a2 a3 τ13 (fun r15 τ16 => post r15 τ16))) ∧ (¬ r12 = 0 → post (-11 : Int32) τ13))))))) ∧ (¬ r7 = 0 → (T_X7_add (2 : Int32) τ8 (fun τ18 => (T_X7_add (1 : Int32) τ18 (fun τ20 => (T_X4_isOut a2 τ20 (fun r21 τ22 => ((r21 = 0 → (T_X8_tryRow a1 a2 a3 τ22 (fun r24 τ25 => post r24 τ25))) ∧ (¬ r21 = 0 → post (-11 : Int32) τ22))))))))))))) ∧ (¬ r4 = 0 → (T_X7_add (3 : Int32) τ5 (fun τ27 => (∀ τ28 : kT, τ28 = q_si τ27 39 1 a3 → post (0 : Int32) τ28)))))))) ∧ (r1 = 0 → post (-11 : Int32) τ2))))
set_option maxRecDepth 100000 in
set_option maxHeartbeats 4000000 in
theorem v_X8_trySingle {d : Nat}  (a1 : Int32) (a2 : Int32) (a3 : Int32) (τ : kT) (post : Int32 → kT → Prop) (h : T_X8_trySingle  a1 a2 a3 τ post) : U yX8_trySingle cX8_trySingle 5 (some .int) (d + 2) kE0 0 [some (.ref 39), some (.ref 1), some (.int a1), some (.int a2), some (.int a3)] [] τ (k_pi post) := by
  unfold T_X8_trySingle at h
  refine v_aload_n dX8_trySingle_0 rfl rfl ?_
  refine u_getr fX8_25 dX8_trySingle_1 sh_1 rfl (by decide) (rf_1_0 _) ?_
  refine v_iload_n dX8_trySingle_4 rfl rfl ?_
  refine u_callV [.int a2] mX4_has iX4_has lX8_52 dX8_trySingle_5 sh_2 rfl rfl (by decide) ⟨rfl, rfl, id⟩ rfl rfl (Nat.le_of_ble_eq_true rfl) (Nat.le_of_ble_eq_true rfl) (v_X4_has a2 _ _ h) ?_
  rintro _ τ2 ⟨r1, rfl, h⟩
  refine v_if_ne (tgt := 14) dX8_trySingle_8 (by decide) (fun c3 => ?_) (fun c3 => ?_)
  · have h := h.1 c3
    refine v_aload_n dX8_trySingle_14 rfl rfl ?_
    refine u_getr fX8_25 dX8_trySingle_15 sh_1 rfl (by decide) (rf_1_0 _) ?_
    refine v_iload_n dX8_trySingle_18 rfl rfl ?_
    refine u_callV [.int a2] mX4_isBlind iX4_isBlind lX8_55 dX8_trySingle_19 sh_2 rfl rfl (by decide) ⟨rfl, rfl, id⟩ rfl rfl (Nat.le_of_ble_eq_true rfl) (Nat.le_of_ble_eq_true rfl) (v_X4_isBlind a2 _ _ h) ?_
    rintro _ τ5 ⟨r4, rfl, h⟩
    refine v_if_eq (tgt := 41) dX8_trySingle_22 (by decide) (fun c6 => ?_) (fun c6 => ?_)
    · have h := h.1 c6
      refine v_aload_n dX8_trySingle_41 rfl rfl ?_
      refine u_getr fX8_25 dX8_trySingle_42 sh_1 rfl (by decide) (rf_1_0 _) ?_
      refine v_iload_n dX8_trySingle_45 rfl rfl ?_
      refine v_iconst (v := 1) dX8_trySingle_46 (by decide) ?_
      refine u_callV [.int a2, .int (1 : Int32)] mX4_isOf iX4_isOf lX8_58 dX8_trySingle_47 sh_2 rfl rfl (by decide) ⟨rfl, rfl, id⟩ rfl rfl (Nat.le_of_ble_eq_true rfl) (Nat.le_of_ble_eq_true rfl) (v_X4_isOf a2 (1 : Int32) _ _ h) ?_
      rintro _ τ8 ⟨r7, rfl, h⟩
      refine v_if_eq (tgt := 61) dX8_trySingle_50 (by decide) (fun c9 => ?_) (fun c9 => ?_)
      · have h := h.1 c9
        refine v_aload_n dX8_trySingle_61 rfl rfl ?_
        refine u_getr fX8_12 dX8_trySingle_62 sh_39 rfl (by decide) (rf_39_0 _) ?_
        refine v_iconst (v := 1) dX8_trySingle_65 (by decide) ?_
        refine u_callV [.int (1 : Int32)] mX7_add iX7_add lX8_41 dX8_trySingle_66 sh_40 rfl rfl (by decide) ⟨rfl, rfl, id⟩ rfl rfl (Nat.le_of_ble_eq_true rfl) (Nat.le_of_ble_eq_true rfl) (v_X7_add (1 : Int32) _ _ h) ?_
        rintro _ τ11 ⟨rfl, h⟩
        refine v_aload_n dX8_trySingle_69 rfl rfl ?_
        refine u_getr fX8_25 dX8_trySingle_70 sh_1 rfl (by decide) (rf_1_0 _) ?_
        refine v_iload_n dX8_trySingle_73 rfl rfl ?_
        refine u_callV [.int a2] mX4_isOut iX4_isOut lX8_62 dX8_trySingle_74 sh_2 rfl rfl (by decide) ⟨rfl, rfl, id⟩ rfl rfl (Nat.le_of_ble_eq_true rfl) (Nat.le_of_ble_eq_true rfl) (v_X4_isOut a2 _ _ h) ?_
        rintro _ τ13 ⟨r12, rfl, h⟩
        refine v_if_eq (tgt := 83) dX8_trySingle_77 (by decide) (fun c14 => ?_) (fun c14 => ?_)
        · have h := h.1 c14
          refine v_aload_n dX8_trySingle_83 rfl rfl ?_
          refine v_aload_n dX8_trySingle_84 rfl rfl ?_
          refine v_iload_n dX8_trySingle_85 rfl rfl ?_
          refine v_iload_n dX8_trySingle_86 rfl rfl ?_
          refine v_iload dX8_trySingle_87 rfl ?_
          refine u_callV [.ref 1, .int a1, .int a2, .int a3] mX8_tryRow iX8_tryRow lX8_65 dX8_trySingle_89 sh_39 rfl rfl (by decide) ⟨rfl, rfl, id⟩ rfl rfl (Nat.le_of_ble_eq_true rfl) (Nat.le_of_ble_eq_true rfl) (v_X8_tryRow a1 a2 a3 _ _ h) ?_
          rintro _ τ16 ⟨r15, rfl, h⟩
          exact u_iret dX8_trySingle_92 ⟨rfl, id⟩ h
        · have h := h.2 c14
          refine v_bipush (v := -11) dX8_trySingle_80 (by decide) ?_
          exact u_iret dX8_trySingle_82 ⟨rfl, id⟩ h
      · have h := h.2 c9
        refine v_aload_n dX8_trySingle_53 rfl rfl ?_
        refine u_getr fX8_12 dX8_trySingle_54 sh_39 rfl (by decide) (rf_39_0 _) ?_
        refine v_iconst (v := 2) dX8_trySingle_57 (by decide) ?_
        refine u_callV [.int (2 : Int32)] mX7_add iX7_add lX8_41 dX8_trySingle_58 sh_40 rfl rfl (by decide) ⟨rfl, rfl, id⟩ rfl rfl (Nat.le_of_ble_eq_true rfl) (Nat.le_of_ble_eq_true rfl) (v_X7_add (2 : Int32) _ _ h) ?_
        rintro _ τ18 ⟨rfl, h⟩
        refine v_aload_n dX8_trySingle_61 rfl rfl ?_
        refine u_getr fX8_12 dX8_trySingle_62 sh_39 rfl (by decide) (rf_39_0 _) ?_
        refine v_iconst (v := 1) dX8_trySingle_65 (by decide) ?_
        refine u_callV [.int (1 : Int32)] mX7_add iX7_add lX8_41 dX8_trySingle_66 sh_40 rfl rfl (by decide) ⟨rfl, rfl, id⟩ rfl rfl (Nat.le_of_ble_eq_true rfl) (Nat.le_of_ble_eq_true rfl) (v_X7_add (1 : Int32) _ _ h) ?_
        rintro _ τ20 ⟨rfl, h⟩
        refine v_aload_n dX8_trySingle_69 rfl rfl ?_
        refine u_getr fX8_25 dX8_trySingle_70 sh_1 rfl (by decide) (rf_1_0 _) ?_
        refine v_iload_n dX8_trySingle_73 rfl rfl ?_
        refine u_callV [.int a2] mX4_isOut iX4_isOut lX8_62 dX8_trySingle_74 sh_2 rfl rfl (by decide) ⟨rfl, rfl, id⟩ rfl rfl (Nat.le_of_ble_eq_true rfl) (Nat.le_of_ble_eq_true rfl) (v_X4_isOut a2 _ _ h) ?_
        rintro _ τ22 ⟨r21, rfl, h⟩
        refine v_if_eq (tgt := 83) dX8_trySingle_77 (by decide) (fun c23 => ?_) (fun c23 => ?_)
        · have h := h.1 c23
          refine v_aload_n dX8_trySingle_83 rfl rfl ?_
          refine v_aload_n dX8_trySingle_84 rfl rfl ?_
          refine v_iload_n dX8_trySingle_85 rfl rfl ?_
          refine v_iload_n dX8_trySingle_86 rfl rfl ?_
          refine v_iload dX8_trySingle_87 rfl ?_
          refine u_callV [.ref 1, .int a1, .int a2, .int a3] mX8_tryRow iX8_tryRow lX8_65 dX8_trySingle_89 sh_39 rfl rfl (by decide) ⟨rfl, rfl, id⟩ rfl rfl (Nat.le_of_ble_eq_true rfl) (Nat.le_of_ble_eq_true rfl) (v_X8_tryRow a1 a2 a3 _ _ h) ?_
          rintro _ τ25 ⟨r24, rfl, h⟩
          exact u_iret dX8_trySingle_92 ⟨rfl, id⟩ h
        · have h := h.2 c23
          refine v_bipush (v := -11) dX8_trySingle_80 (by decide) ?_
          exact u_iret dX8_trySingle_82 ⟨rfl, id⟩ h
    · have h := h.2 c6
      refine v_aload_n dX8_trySingle_25 rfl rfl ?_
      refine u_getr fX8_12 dX8_trySingle_26 sh_39 rfl (by decide) (rf_39_0 _) ?_
      refine v_iconst (v := 3) dX8_trySingle_29 (by decide) ?_
      refine u_callV [.int (3 : Int32)] mX7_add iX7_add lX8_41 dX8_trySingle_30 sh_40 rfl rfl (by decide) ⟨rfl, rfl, id⟩ rfl rfl (Nat.le_of_ble_eq_true rfl) (Nat.le_of_ble_eq_true rfl) (v_X7_add (3 : Int32) _ _ h) ?_
      rintro _ τ27 ⟨rfl, h⟩
      refine v_aload_n dX8_trySingle_33 rfl rfl ?_
      refine v_iload dX8_trySingle_34 rfl ?_
      refine u_puti pX8_18 ⟨_, rfl⟩ dX8_trySingle_36 sh_39 rfl (by decide) (by decide) (fun τ28 e_τ28 => ?_)
      have h := h τ28 e_τ28
      refine v_iconst (v := 0) dX8_trySingle_39 (by decide) ?_
      exact u_iret dX8_trySingle_40 ⟨rfl, id⟩ h
  · have h := h.2 c3
    refine v_bipush (v := -11) dX8_trySingle_11 (by decide) ?_
    exact u_iret dX8_trySingle_13 ⟨rfl, id⟩ h
def T_X8_tryKey (a1 : Int32) (a2 : Int32) (τ : kT) (post : Int32 → kT → Prop) : Prop := (T_X4_isDouble a2 τ (fun r1 τ2 => ((¬ r1 = 0 → (T_X7_add (4 : Int32) τ2 (fun τ5 => (∃ j6 : Nat, a2 = nI j6 ∧ j6 < 100 ∧ (T_X8_trySingle a1 (q_i τ5 6 j6) (0 : Int32) τ5 (fun r7 τ8 => ((r7 = (1 : Int32) → (∃ j10 : Nat, a2 = nI j10 ∧ j10 < 100 ∧ (T_X8_trySingle a1 (q_i τ8 7 j10) (18 : Int32) τ8 (fun r11 τ12 => post r11 τ12)))) ∧ (¬ r7 = (1 : Int32) → post r7 τ8)))))))) ∧ (r1 = 0 → (T_X8_trySingle a1 a2 (0 : Int32) τ2 (fun r13 τ14 => post r13 τ14))))))
set_option maxRecDepth 100000 in
set_option maxHeartbeats 4000000 in
theorem v_X8_tryKey {d : Nat}  (a1 : Int32) (a2 : Int32) (τ : kT) (post : Int32 → kT → Prop) (h : T_X8_tryKey  a1 a2 τ post) : U yX8_tryKey cX8_tryKey 5 (some .int) (d + 3) kE0 0 [some (.ref 39), some (.ref 1), some (.int a1), some (.int a2), none] [] τ (k_pi post) := by
  unfold T_X8_tryKey at h
  refine v_aload_n dX8_tryKey_0 rfl rfl ?_
  refine u_getr fX8_25 dX8_tryKey_1 sh_1 rfl (by decide) (rf_1_0 _) ?_
  refine v_iload_n dX8_tryKey_4 rfl rfl ?_
  refine u_callV [.int a2] mX4_isDouble iX4_isDouble lX8_31 dX8_tryKey_5 sh_2 rfl rfl (by decide) ⟨rfl, rfl, id⟩ rfl rfl (Nat.le_of_ble_eq_true rfl) (Nat.le_of_ble_eq_true rfl) (v_X4_isDouble a2 _ _ h) ?_
  rintro _ τ2 ⟨r1, rfl, h⟩
  refine v_if_ne (tgt := 20) dX8_tryKey_8 (by decide) (fun c3 => ?_) (fun c3 => ?_)
  · have h := h.1 c3
    refine v_aload_n dX8_tryKey_20 rfl rfl ?_
    refine u_getr fX8_12 dX8_tryKey_21 sh_39 rfl (by decide) (rf_39_0 _) ?_
    refine v_iconst (v := 4) dX8_tryKey_24 (by decide) ?_
    refine u_callV [.int (4 : Int32)] mX7_add iX7_add lX8_41 dX8_tryKey_25 sh_40 rfl rfl (by decide) ⟨rfl, rfl, id⟩ rfl rfl (Nat.le_of_ble_eq_true rfl) (Nat.le_of_ble_eq_true rfl) (v_X7_add (4 : Int32) _ _ h) ?_
    rintro _ τ5 ⟨rfl, h⟩
    refine v_aload_n dX8_tryKey_28 rfl rfl ?_
    refine v_aload_n dX8_tryKey_29 rfl rfl ?_
    refine v_iload_n dX8_tryKey_30 rfl rfl ?_
    refine v_aload_n dX8_tryKey_31 rfl rfl ?_
    refine u_getr fX8_25 dX8_tryKey_32 sh_1 rfl (by decide) (rf_1_0 _) ?_
    refine u_getr fX8_45 dX8_tryKey_35 sh_2 rfl (by decide) (rf_2_3 _) ?_
    refine v_iload_n dX8_tryKey_38 rfl rfl ?_
    obtain ⟨j6, e_j6, l_j6, h⟩ := h
    refine u_iald dX8_tryKey_39 sh_6 (by decide) (by decide) e_j6 l_j6 ?_
    refine v_iconst (v := 0) dX8_tryKey_40 (by decide) ?_
    refine u_callV [.ref 1, .int a1, .int (q_i τ5 6 j6), .int (0 : Int32)] mX8_trySingle iX8_trySingle lX8_37 dX8_tryKey_41 sh_39 rfl rfl (by decide) ⟨rfl, rfl, id⟩ rfl rfl (Nat.le_of_ble_eq_true rfl) (Nat.le_of_ble_eq_true rfl) (v_X8_trySingle a1 (q_i τ5 6 j6) (0 : Int32) _ _ h) ?_
    rintro _ τ8 ⟨r7, rfl, h⟩
    refine v_istore dX8_tryKey_44 (by decide) rfl ?_
    refine v_ls (ls2 := [some (.ref 39), some (.ref 1), some (.int a1), some (.int a2), some (.int r7)]) rfl ?_
    refine v_iload dX8_tryKey_46 rfl ?_
    refine v_iconst (v := 1) dX8_tryKey_48 (by decide) ?_
    refine v_icmp_eq (tgt := 55) dX8_tryKey_49 (by decide) (fun c9 => ?_) (fun c9 => ?_)
    · have h := h.1 c9
      refine v_aload_n dX8_tryKey_55 rfl rfl ?_
      refine v_aload_n dX8_tryKey_56 rfl rfl ?_
      refine v_iload_n dX8_tryKey_57 rfl rfl ?_
      refine v_aload_n dX8_tryKey_58 rfl rfl ?_
      refine u_getr fX8_25 dX8_tryKey_59 sh_1 rfl (by decide) (rf_1_0 _) ?_
      refine u_getr fX8_49 dX8_tryKey_62 sh_2 rfl (by decide) (rf_2_4 _) ?_
      refine v_iload_n dX8_tryKey_65 rfl rfl ?_
      obtain ⟨j10, e_j10, l_j10, h⟩ := h
      refine u_iald dX8_tryKey_66 sh_7 (by decide) (by decide) e_j10 l_j10 ?_
      refine v_bipush (v := 18) dX8_tryKey_67 (by decide) ?_
      refine u_callV [.ref 1, .int a1, .int (q_i τ8 7 j10), .int (18 : Int32)] mX8_trySingle iX8_trySingle lX8_37 dX8_tryKey_69 sh_39 rfl rfl (by decide) ⟨rfl, rfl, id⟩ rfl rfl (Nat.le_of_ble_eq_true rfl) (Nat.le_of_ble_eq_true rfl) (v_X8_trySingle a1 (q_i τ8 7 j10) (18 : Int32) _ _ h) ?_
      rintro _ τ12 ⟨r11, rfl, h⟩
      exact u_iret dX8_tryKey_72 ⟨rfl, id⟩ h
    · have h := h.2 c9
      refine v_iload dX8_tryKey_52 rfl ?_
      exact u_iret dX8_tryKey_54 ⟨rfl, id⟩ h
  · have h := h.2 c3
    refine v_aload_n dX8_tryKey_11 rfl rfl ?_
    refine v_aload_n dX8_tryKey_12 rfl rfl ?_
    refine v_iload_n dX8_tryKey_13 rfl rfl ?_
    refine v_iload_n dX8_tryKey_14 rfl rfl ?_
    refine v_iconst (v := 0) dX8_tryKey_15 (by decide) ?_
    refine u_callV [.ref 1, .int a1, .int a2, .int (0 : Int32)] mX8_trySingle iX8_trySingle lX8_37 dX8_tryKey_16 sh_39 rfl rfl (by decide) ⟨rfl, rfl, id⟩ rfl rfl (Nat.le_of_ble_eq_true rfl) (Nat.le_of_ble_eq_true rfl) (v_X8_trySingle a1 a2 (0 : Int32) _ _ h) ?_
    rintro _ τ14 ⟨r13, rfl, h⟩
    exact u_iret dX8_tryKey_19 ⟨rfl, id⟩ h
def T_X10_turn (a1 : Int32) (a2 : Int32) (τ : kT) (post : Int32 → kT → Prop) : Prop := (T_X5_has a1 τ (fun r1 τ2 => ((r1 = 0 → post (-2 : Int32) τ2) ∧ (¬ r1 = 0 → (T_X4_has a2 τ2 (fun r4 τ5 => ((¬ r4 = 0 → (T_X8_begin  τ5 (fun τ8 => (T_X8_tryKey a1 a2 τ8 (fun r9 τ10 => (T_X10_settle r9 τ10 (fun r11 τ12 => post r11 τ12))))))) ∧ (r4 = 0 → post (-2 : Int32) τ5))))))))
set_option maxRecDepth 100000 in
set_option maxHeartbeats 4000000 in
theorem v_X10_turn {d : Nat}  (a1 : Int32) (a2 : Int32) (τ : kT) (post : Int32 → kT → Prop) (h : T_X10_turn  a1 a2 τ post) : U yX10_turn cX10_turn 3 (some .int) (d + 4) kE0 0 [some (.ref 0), some (.int a1), some (.int a2)] [] τ (k_pi post) := by
  unfold T_X10_turn at h
  refine v_aload_n dX10_turn_0 rfl rfl ?_
  refine u_getr fX10_10 dX10_turn_1 sh_0 rfl (by decide) (rf_0_0 _) ?_
  refine u_getr fX10_191 dX10_turn_4 sh_1 rfl (by decide) (rf_1_1 _) ?_
  refine v_iload_n dX10_turn_7 rfl rfl ?_
  refine u_callV [.int a1] mX5_has iX5_has lX10_202 dX10_turn_8 sh_9 rfl rfl (by decide) ⟨rfl, rfl, id⟩ rfl rfl (Nat.le_of_ble_eq_true rfl) (Nat.le_of_ble_eq_true rfl) (v_X5_has a1 _ _ h) ?_
  rintro _ τ2 ⟨r1, rfl, h⟩
  refine v_if_eq (tgt := 28) dX10_turn_11 (by decide) (fun c3 => ?_) (fun c3 => ?_)
  · have h := h.1 c3
    refine v_bipush (v := -2) dX10_turn_28 (by decide) ?_
    exact u_iret dX10_turn_30 ⟨rfl, id⟩ h
  · have h := h.2 c3
    refine v_aload_n dX10_turn_14 rfl rfl ?_
    refine u_getr fX10_10 dX10_turn_15 sh_0 rfl (by decide) (rf_0_0 _) ?_
    refine u_getr fX10_72 dX10_turn_18 sh_1 rfl (by decide) (rf_1_0 _) ?_
    refine v_iload_n dX10_turn_21 rfl rfl ?_
    refine u_callV [.int a2] mX4_has iX4_has lX10_104 dX10_turn_22 sh_2 rfl rfl (by decide) ⟨rfl, rfl, id⟩ rfl rfl (Nat.le_of_ble_eq_true rfl) (Nat.le_of_ble_eq_true rfl) (v_X4_has a2 _ _ h) ?_
    rintro _ τ5 ⟨r4, rfl, h⟩
    refine v_if_ne (tgt := 31) dX10_turn_25 (by decide) (fun c6 => ?_) (fun c6 => ?_)
    · have h := h.1 c6
      refine v_aload_n dX10_turn_31 rfl rfl ?_
      refine u_getr fX10_36 dX10_turn_32 sh_0 rfl (by decide) (rf_0_6 _) ?_
      refine u_callV [] mX8_begin iX8_begin lX10_217 dX10_turn_35 sh_39 rfl rfl (by decide) ⟨rfl, rfl, id⟩ rfl rfl (Nat.le_of_ble_eq_true rfl) (Nat.le_of_ble_eq_true rfl) (v_X8_begin  _ _ h) ?_
      rintro _ τ8 ⟨rfl, h⟩
      refine v_aload_n dX10_turn_38 rfl rfl ?_
      refine v_aload_n dX10_turn_39 rfl rfl ?_
      refine u_getr fX10_36 dX10_turn_40 sh_0 rfl (by decide) (rf_0_6 _) ?_
      refine v_aload_n dX10_turn_43 rfl rfl ?_
      refine u_getr fX10_10 dX10_turn_44 sh_0 rfl (by decide) (rf_0_0 _) ?_
      refine v_iload_n dX10_turn_47 rfl rfl ?_
      refine v_iload_n dX10_turn_48 rfl rfl ?_
      refine u_callV [.ref 1, .int a1, .int a2] mX8_tryKey iX8_tryKey lX10_218 dX10_turn_49 sh_39 rfl rfl (by decide) ⟨rfl, rfl, id⟩ rfl rfl (Nat.le_of_ble_eq_true rfl) (Nat.le_of_ble_eq_true rfl) (v_X8_tryKey a1 a2 _ _ h) ?_
      rintro _ τ10 ⟨r9, rfl, h⟩
      refine u_callV [.int r9] mX10_settle iX10_settle lX10_68 dX10_turn_52 sh_0 rfl rfl (by decide) ⟨rfl, rfl, id⟩ rfl rfl (Nat.le_of_ble_eq_true rfl) (Nat.le_of_ble_eq_true rfl) (v_X10_settle r9 _ _ h) ?_
      rintro _ τ12 ⟨r11, rfl, h⟩
      exact u_iret dX10_turn_55 ⟨rfl, id⟩ h
    · have h := h.2 c6
      refine v_bipush (v := -2) dX10_turn_28 (by decide) ?_
      exact u_iret dX10_turn_30 ⟨rfl, id⟩ h
def T_X6_hasDoor (a1 : Int32) (τ : kT) (post : Int32 → kT → Prop) : Prop := ((a1 < 0 → post (0 : Int32) τ) ∧ (¬ a1 < 0 → (((q_i τ 1 4) ≤ a1 → post (0 : Int32) τ) ∧ (¬ (q_i τ 1 4) ≤ a1 → post (1 : Int32) τ))))
set_option maxRecDepth 100000 in
set_option maxHeartbeats 4000000 in
theorem v_X6_hasDoor {d : Nat}  (a1 : Int32) (τ : kT) (post : Int32 → kT → Prop) (h : T_X6_hasDoor  a1 τ post) : U yX6_hasDoor cX6_hasDoor 2 (some .boolean) (d + 0) kE0 0 [some (.ref 1), some (.int a1)] [] τ (k_pi post) := by
  unfold T_X6_hasDoor at h
  refine v_iload_n dX6_hasDoor_0 rfl rfl ?_
  refine v_if_lt (tgt := 16) dX6_hasDoor_1 (by decide) (fun c1 => ?_) (fun c1 => ?_)
  · have h := h.1 c1
    refine v_iconst (v := 0) dX6_hasDoor_16 (by decide) ?_
    exact u_zret dX6_hasDoor_17 rfl ⟨rfl, id⟩ h
  · have h := h.2 c1
    refine v_iload_n dX6_hasDoor_4 rfl rfl ?_
    refine v_aload_n dX6_hasDoor_5 rfl rfl ?_
    refine u_geti fX6_36 dX6_hasDoor_6 sh_1 rfl (by decide) ?_
    refine v_icmp_ge (tgt := 16) dX6_hasDoor_9 (by decide) (fun c2 => ?_) (fun c2 => ?_)
    · have h := h.1 c2
      refine v_iconst (v := 0) dX6_hasDoor_16 (by decide) ?_
      exact u_zret dX6_hasDoor_17 rfl ⟨rfl, id⟩ h
    · have h := h.2 c2
      refine v_iconst (v := 1) dX6_hasDoor_12 (by decide) ?_
      refine v_goto (tgt := 17) dX6_hasDoor_13 (by decide) ?_
      exact u_zret dX6_hasDoor_17 rfl ⟨rfl, id⟩ h
def T_X10_opens (a1 : Int32) (a2 : Int32) (τ : kT) (post : Int32 → kT → Prop) : Prop := (T_X5_has a1 τ (fun r1 τ2 => ((r1 = 0 → post (-2 : Int32) τ2) ∧ (¬ r1 = 0 → (T_X6_hasDoor a2 τ2 (fun r4 τ5 => ((¬ r4 = 0 → (T_X8_begin  τ5 (fun τ8 => (∃ j9 : Nat, a2 = nI j9 ∧ j9 < 40 ∧ (T_X8_tryKey a1 (q_i τ8 19 j9) τ8 (fun r10 τ11 => (T_X10_settle r10 τ11 (fun r12 τ13 => post r12 τ13)))))))) ∧ (r4 = 0 → post (-2 : Int32) τ5))))))))
set_option maxRecDepth 100000 in
set_option maxHeartbeats 4000000 in
theorem v_X10_opens {d : Nat}  (a1 : Int32) (a2 : Int32) (τ : kT) (post : Int32 → kT → Prop) (h : T_X10_opens  a1 a2 τ post) : U yX10_opens cX10_opens 3 (some .int) (d + 4) kE0 0 [some (.ref 0), some (.int a1), some (.int a2)] [] τ (k_pi post) := by
  unfold T_X10_opens at h
  refine v_aload_n dX10_opens_0 rfl rfl ?_
  refine u_getr fX10_10 dX10_opens_1 sh_0 rfl (by decide) (rf_0_0 _) ?_
  refine u_getr fX10_191 dX10_opens_4 sh_1 rfl (by decide) (rf_1_1 _) ?_
  refine v_iload_n dX10_opens_7 rfl rfl ?_
  refine u_callV [.int a1] mX5_has iX5_has lX10_202 dX10_opens_8 sh_9 rfl rfl (by decide) ⟨rfl, rfl, id⟩ rfl rfl (Nat.le_of_ble_eq_true rfl) (Nat.le_of_ble_eq_true rfl) (v_X5_has a1 _ _ h) ?_
  rintro _ τ2 ⟨r1, rfl, h⟩
  refine v_if_eq (tgt := 25) dX10_opens_11 (by decide) (fun c3 => ?_) (fun c3 => ?_)
  · have h := h.1 c3
    refine v_bipush (v := -2) dX10_opens_25 (by decide) ?_
    exact u_iret dX10_opens_27 ⟨rfl, id⟩ h
  · have h := h.2 c3
    refine v_aload_n dX10_opens_14 rfl rfl ?_
    refine u_getr fX10_10 dX10_opens_15 sh_0 rfl (by decide) (rf_0_0 _) ?_
    refine v_iload_n dX10_opens_18 rfl rfl ?_
    refine u_callV [.int a2] mX6_hasDoor iX6_hasDoor lX10_222 dX10_opens_19 sh_1 rfl rfl (by decide) ⟨rfl, rfl, id⟩ rfl rfl (Nat.le_of_ble_eq_true rfl) (Nat.le_of_ble_eq_true rfl) (v_X6_hasDoor a2 _ _ h) ?_
    rintro _ τ5 ⟨r4, rfl, h⟩
    refine v_if_ne (tgt := 28) dX10_opens_22 (by decide) (fun c6 => ?_) (fun c6 => ?_)
    · have h := h.1 c6
      refine v_aload_n dX10_opens_28 rfl rfl ?_
      refine u_getr fX10_36 dX10_opens_29 sh_0 rfl (by decide) (rf_0_6 _) ?_
      refine u_callV [] mX8_begin iX8_begin lX10_217 dX10_opens_32 sh_39 rfl rfl (by decide) ⟨rfl, rfl, id⟩ rfl rfl (Nat.le_of_ble_eq_true rfl) (Nat.le_of_ble_eq_true rfl) (v_X8_begin  _ _ h) ?_
      rintro _ τ8 ⟨rfl, h⟩
      refine v_aload_n dX10_opens_35 rfl rfl ?_
      refine v_aload_n dX10_opens_36 rfl rfl ?_
      refine u_getr fX10_36 dX10_opens_37 sh_0 rfl (by decide) (rf_0_6 _) ?_
      refine v_aload_n dX10_opens_40 rfl rfl ?_
      refine u_getr fX10_10 dX10_opens_41 sh_0 rfl (by decide) (rf_0_0 _) ?_
      refine v_iload_n dX10_opens_44 rfl rfl ?_
      refine v_aload_n dX10_opens_45 rfl rfl ?_
      refine u_getr fX10_10 dX10_opens_46 sh_0 rfl (by decide) (rf_0_0 _) ?_
      refine u_getr fX10_225 dX10_opens_49 sh_1 rfl (by decide) (rf_1_3 _) ?_
      refine v_iload_n dX10_opens_52 rfl rfl ?_
      obtain ⟨j9, e_j9, l_j9, h⟩ := h
      refine u_iald dX10_opens_53 sh_19 (by decide) (by decide) e_j9 l_j9 ?_
      refine u_callV [.ref 1, .int a1, .int (q_i τ8 19 j9)] mX8_tryKey iX8_tryKey lX10_218 dX10_opens_54 sh_39 rfl rfl (by decide) ⟨rfl, rfl, id⟩ rfl rfl (Nat.le_of_ble_eq_true rfl) (Nat.le_of_ble_eq_true rfl) (v_X8_tryKey a1 (q_i τ8 19 j9) _ _ h) ?_
      rintro _ τ11 ⟨r10, rfl, h⟩
      refine u_callV [.int r10] mX10_settle iX10_settle lX10_68 dX10_opens_57 sh_0 rfl rfl (by decide) ⟨rfl, rfl, id⟩ rfl rfl (Nat.le_of_ble_eq_true rfl) (Nat.le_of_ble_eq_true rfl) (v_X10_settle r10 _ _ h) ?_
      rintro _ τ13 ⟨r12, rfl, h⟩
      exact u_iret dX10_opens_60 ⟨rfl, id⟩ h
    · have h := h.2 c6
      refine v_bipush (v := -2) dX10_opens_25 (by decide) ?_
      exact u_iret dX10_opens_27 ⟨rfl, id⟩ h
def T_X0_has (a1 : Int32) (τ : kT) (post : Int32 → kT → Prop) : Prop := ((a1 < 0 → post (0 : Int32) τ) ∧ (¬ a1 < 0 → (((q_i τ 15 3) ≤ a1 → post (0 : Int32) τ) ∧ (¬ (q_i τ 15 3) ≤ a1 → post (1 : Int32) τ))))
set_option maxRecDepth 100000 in
set_option maxHeartbeats 4000000 in
theorem v_X0_has {d : Nat}  (a1 : Int32) (τ : kT) (post : Int32 → kT → Prop) (h : T_X0_has  a1 τ post) : U yX0_has cX0_has 2 (some .boolean) (d + 0) kE0 0 [some (.ref 15), some (.int a1)] [] τ (k_pi post) := by
  unfold T_X0_has at h
  refine v_iload_n dX0_has_0 rfl rfl ?_
  refine v_if_lt (tgt := 16) dX0_has_1 (by decide) (fun c1 => ?_) (fun c1 => ?_)
  · have h := h.1 c1
    refine v_iconst (v := 0) dX0_has_16 (by decide) ?_
    exact u_zret dX0_has_17 rfl ⟨rfl, id⟩ h
  · have h := h.2 c1
    refine v_iload_n dX0_has_4 rfl rfl ?_
    refine v_aload_n dX0_has_5 rfl rfl ?_
    refine u_geti fX0_21 dX0_has_6 sh_15 rfl (by decide) ?_
    refine v_icmp_ge (tgt := 16) dX0_has_9 (by decide) (fun c2 => ?_) (fun c2 => ?_)
    · have h := h.1 c2
      refine v_iconst (v := 0) dX0_has_16 (by decide) ?_
      exact u_zret dX0_has_17 rfl ⟨rfl, id⟩ h
    · have h := h.2 c2
      refine v_iconst (v := 1) dX0_has_12 (by decide) ?_
      refine v_goto (tgt := 17) dX0_has_13 (by decide) ?_
      exact u_zret dX0_has_17 rfl ⟨rfl, id⟩ h
def T_X0_hasPlace (a1 : Int32) (a2 : Int32) (τ : kT) (post : Int32 → kT → Prop) : Prop := (T_X0_has a1 τ (fun r1 τ2 => ((r1 = 0 → post (0 : Int32) τ2) ∧ (¬ r1 = 0 → ((a2 < 0 → post (0 : Int32) τ2) ∧ (¬ a2 < 0 → (∃ j5 : Nat, a1 = nI j5 ∧ j5 < 12 ∧ (((q_i τ2 17 j5) ≤ a2 → post (0 : Int32) τ2) ∧ (¬ (q_i τ2 17 j5) ≤ a2 → post (1 : Int32) τ2)))))))))
set_option maxRecDepth 100000 in
set_option maxHeartbeats 4000000 in
theorem v_X0_hasPlace {d : Nat}  (a1 : Int32) (a2 : Int32) (τ : kT) (post : Int32 → kT → Prop) (h : T_X0_hasPlace  a1 a2 τ post) : U yX0_hasPlace cX0_hasPlace 3 (some .boolean) (d + 1) kE0 0 [some (.ref 15), some (.int a1), some (.int a2)] [] τ (k_pi post) := by
  unfold T_X0_hasPlace at h
  refine v_aload_n dX0_hasPlace_0 rfl rfl ?_
  refine v_iload_n dX0_hasPlace_1 rfl rfl ?_
  refine u_callV [.int a1] mX0_has iX0_has lX0_25 dX0_hasPlace_2 sh_15 rfl rfl (by decide) ⟨rfl, rfl, id⟩ rfl rfl (Nat.le_of_ble_eq_true rfl) (Nat.le_of_ble_eq_true rfl) (v_X0_has a1 _ _ h) ?_
  rintro _ τ2 ⟨r1, rfl, h⟩
  refine v_if_eq (tgt := 26) dX0_hasPlace_5 (by decide) (fun c3 => ?_) (fun c3 => ?_)
  · have h := h.1 c3
    refine v_iconst (v := 0) dX0_hasPlace_26 (by decide) ?_
    exact u_zret dX0_hasPlace_27 rfl ⟨rfl, id⟩ h
  · have h := h.2 c3
    refine v_iload_n dX0_hasPlace_8 rfl rfl ?_
    refine v_if_lt (tgt := 26) dX0_hasPlace_9 (by decide) (fun c4 => ?_) (fun c4 => ?_)
    · have h := h.1 c4
      refine v_iconst (v := 0) dX0_hasPlace_26 (by decide) ?_
      exact u_zret dX0_hasPlace_27 rfl ⟨rfl, id⟩ h
    · have h := h.2 c4
      refine v_iload_n dX0_hasPlace_12 rfl rfl ?_
      refine v_aload_n dX0_hasPlace_13 rfl rfl ?_
      refine u_getr fX0_15 dX0_hasPlace_14 sh_15 rfl (by decide) (rf_15_1 _) ?_
      refine v_iload_n dX0_hasPlace_17 rfl rfl ?_
      obtain ⟨j5, e_j5, l_j5, h⟩ := h
      refine u_iald dX0_hasPlace_18 sh_17 (by decide) (by decide) e_j5 l_j5 ?_
      refine v_icmp_ge (tgt := 26) dX0_hasPlace_19 (by decide) (fun c6 => ?_) (fun c6 => ?_)
      · have h := h.1 c6
        refine v_iconst (v := 0) dX0_hasPlace_26 (by decide) ?_
        exact u_zret dX0_hasPlace_27 rfl ⟨rfl, id⟩ h
      · have h := h.2 c6
        refine v_iconst (v := 1) dX0_hasPlace_22 (by decide) ?_
        refine v_goto (tgt := 27) dX0_hasPlace_23 (by decide) ?_
        exact u_zret dX0_hasPlace_27 rfl ⟨rfl, id⟩ h
def T_X0_cylinderAt (a1 : Int32) (a2 : Int32) (τ : kT) (post : Int32 → kT → Prop) : Prop := (T_X0_hasPlace a1 a2 τ (fun r1 τ2 => ((r1 = 0 → post (-1 : Int32) τ2) ∧ (¬ r1 = 0 → (∃ j4 : Nat, ((a1 * (20 : Int32)) + a2) = nI j4 ∧ j4 < 240 ∧ post (q_i τ2 18 j4) τ2)))))
set_option maxRecDepth 100000 in
set_option maxHeartbeats 4000000 in
theorem v_X0_cylinderAt {d : Nat}  (a1 : Int32) (a2 : Int32) (τ : kT) (post : Int32 → kT → Prop) (h : T_X0_cylinderAt  a1 a2 τ post) : U yX0_cylinderAt cX0_cylinderAt 3 (some .int) (d + 2) kE0 0 [some (.ref 15), some (.int a1), some (.int a2)] [] τ (k_pi post) := by
  unfold T_X0_cylinderAt at h
  refine v_aload_n dX0_cylinderAt_0 rfl rfl ?_
  refine v_iload_n dX0_cylinderAt_1 rfl rfl ?_
  refine v_iload_n dX0_cylinderAt_2 rfl rfl ?_
  refine u_callV [.int a1, .int a2] mX0_hasPlace iX0_hasPlace lX0_29 dX0_cylinderAt_3 sh_15 rfl rfl (by decide) ⟨rfl, rfl, id⟩ rfl rfl (Nat.le_of_ble_eq_true rfl) (Nat.le_of_ble_eq_true rfl) (v_X0_hasPlace a1 a2 _ _ h) ?_
  rintro _ τ2 ⟨r1, rfl, h⟩
  refine v_if_eq (tgt := 23) dX0_cylinderAt_6 (by decide) (fun c3 => ?_) (fun c3 => ?_)
  · have h := h.1 c3
    refine v_iconst (v := -1) dX0_cylinderAt_23 (by decide) ?_
    exact u_iret dX0_cylinderAt_24 ⟨rfl, id⟩ h
  · have h := h.2 c3
    refine v_aload_n dX0_cylinderAt_9 rfl rfl ?_
    refine u_getr fX0_18 dX0_cylinderAt_10 sh_15 rfl (by decide) (rf_15_2 _) ?_
    refine v_iload_n dX0_cylinderAt_13 rfl rfl ?_
    refine v_bipush (v := 20) dX0_cylinderAt_14 (by decide) ?_
    refine v_imul dX0_cylinderAt_16 ?_
    refine v_iload_n dX0_cylinderAt_17 rfl rfl ?_
    refine v_iadd dX0_cylinderAt_18 ?_
    obtain ⟨j4, e_j4, l_j4, h⟩ := h
    refine u_iald dX0_cylinderAt_19 sh_18 (by decide) (by decide) e_j4 l_j4 ?_
    refine v_goto (tgt := 24) dX0_cylinderAt_20 (by decide) ?_
    exact u_iret dX0_cylinderAt_24 ⟨rfl, id⟩ h
def L_X10_turnPlaceByPlace_5  (f1 : Int32) (f2 : Int32) (K : Int32 → Int32 → kT → Prop) (post : Int32 → kT → Prop) : Nat → Int32 → Int32 → kT → Prop
  | 0, _, _, _ => False
  | n + 1, x3, x4, τ => (∃ j1 : Nat, f1 = nI j1 ∧ j1 < 12 ∧ (((q_i τ 17 j1) ≤ x4 → K x3 x4 τ) ∧ (¬ (q_i τ 17 j1) ≤ x4 → (T_X0_cylinderAt f1 x4 τ (fun r3 τ4 => (T_X8_tryKey f2 r3 τ4 (fun r5 τ6 => ((r5 = (1 : Int32) → (∀ v8 : Int32, v8 = x3 + (1 : Int32) → (∀ v9 : Int32, v9 = x4 + (1 : Int32) → L_X10_turnPlaceByPlace_5 f1 f2 K post n v8 v9 τ6))) ∧ (¬ r5 = (1 : Int32) → ((¬ r5 = 0 → post r5 τ6) ∧ (r5 = 0 → post x3 τ6)))))))))))
def T_X10_turnPlaceByPlace (a1 : Int32) (a2 : Int32) (τ : kT) (post : Int32 → kT → Prop) : Prop := (∃ m11 : Nat, L_X10_turnPlaceByPlace_5  a1 a2 (fun v12 v13 τ14 => post v12 τ14) post m11 (0 : Int32) (0 : Int32) τ)
set_option maxRecDepth 100000 in
set_option maxHeartbeats 4000000 in
theorem l_X10_turnPlaceByPlace_5 {d : Nat}  (f1 : Int32) (f2 : Int32) {K : Int32 → Int32 → kT → Prop} {post : Int32 → kT → Prop} (hK : ∀ (x3 : Int32) (x4 : Int32) (τ : kT), K x3 x4 τ → U yX10_turnPlaceByPlace cX10_turnPlaceByPlace 6 (some .int) (d + 4) kE0 76 [some (.ref 0), some (.int f1), some (.int f2), some (.int x3), some (.int x4), none] [] τ (k_pi post)) : ∀ (n : Nat) (x3 : Int32) (x4 : Int32) (τ : kT), L_X10_turnPlaceByPlace_5  f1 f2 K post n x3 x4 τ → U yX10_turnPlaceByPlace cX10_turnPlaceByPlace 6 (some .int) (d + 4) kE0 5 [some (.ref 0), some (.int f1), some (.int f2), some (.int x3), some (.int x4), none] [] τ (k_pi post) := by
  intro n
  induction n with
  | zero => intro x3 x4 τ h; exact h.elim
  | succ n ih =>
    intro x3 x4 τ h
    unfold L_X10_turnPlaceByPlace_5 at h
    refine v_iload dX10_turnPlaceByPlace_5 rfl ?_
    refine v_aload_n dX10_turnPlaceByPlace_7 rfl rfl ?_
    refine u_getr fX10_10 dX10_turnPlaceByPlace_8 sh_0 rfl (by decide) (rf_0_0 _) ?_
    refine u_getr fX10_228 dX10_turnPlaceByPlace_11 sh_1 rfl (by decide) (rf_1_2 _) ?_
    refine u_getr fX10_238 dX10_turnPlaceByPlace_14 sh_15 rfl (by decide) (rf_15_1 _) ?_
    refine v_iload_n dX10_turnPlaceByPlace_17 rfl rfl ?_
    obtain ⟨j1, e_j1, l_j1, h⟩ := h
    refine u_iald dX10_turnPlaceByPlace_18 sh_17 (by decide) (by decide) e_j1 l_j1 ?_
    refine v_icmp_ge (tgt := 76) dX10_turnPlaceByPlace_19 (by decide) (fun c2 => ?_) (fun c2 => ?_)
    · have h := h.1 c2
      exact hK x3 x4 _ h
    · have h := h.2 c2
      refine v_aload_n dX10_turnPlaceByPlace_22 rfl rfl ?_
      refine u_getr fX10_36 dX10_turnPlaceByPlace_23 sh_0 rfl (by decide) (rf_0_6 _) ?_
      refine v_aload_n dX10_turnPlaceByPlace_26 rfl rfl ?_
      refine u_getr fX10_10 dX10_turnPlaceByPlace_27 sh_0 rfl (by decide) (rf_0_0 _) ?_
      refine v_iload_n dX10_turnPlaceByPlace_30 rfl rfl ?_
      refine v_aload_n dX10_turnPlaceByPlace_31 rfl rfl ?_
      refine u_getr fX10_10 dX10_turnPlaceByPlace_32 sh_0 rfl (by decide) (rf_0_0 _) ?_
      refine u_getr fX10_228 dX10_turnPlaceByPlace_35 sh_1 rfl (by decide) (rf_1_2 _) ?_
      refine v_iload_n dX10_turnPlaceByPlace_38 rfl rfl ?_
      refine v_iload dX10_turnPlaceByPlace_39 rfl ?_
      refine u_callV [.int f1, .int x4] mX0_cylinderAt iX0_cylinderAt lX10_241 dX10_turnPlaceByPlace_41 sh_15 rfl rfl (by decide) ⟨rfl, rfl, id⟩ rfl rfl (Nat.le_of_ble_eq_true rfl) (Nat.le_of_ble_eq_true rfl) (v_X0_cylinderAt f1 x4 _ _ h) ?_
      rintro _ τ4 ⟨r3, rfl, h⟩
      refine u_callV [.ref 1, .int f2, .int r3] mX8_tryKey iX8_tryKey lX10_218 dX10_turnPlaceByPlace_44 sh_39 rfl rfl (by decide) ⟨rfl, rfl, id⟩ rfl rfl (Nat.le_of_ble_eq_true rfl) (Nat.le_of_ble_eq_true rfl) (v_X8_tryKey f2 r3 _ _ h) ?_
      rintro _ τ6 ⟨r5, rfl, h⟩
      refine v_istore dX10_turnPlaceByPlace_47 (by decide) rfl ?_
      refine v_ls (ls2 := [some (.ref 0), some (.int f1), some (.int f2), some (.int x3), some (.int x4), some (.int r5)]) rfl ?_
      refine v_iload dX10_turnPlaceByPlace_49 rfl ?_
      refine v_iconst (v := 1) dX10_turnPlaceByPlace_51 (by decide) ?_
      refine v_icmp_eq (tgt := 67) dX10_turnPlaceByPlace_52 (by decide) (fun c7 => ?_) (fun c7 => ?_)
      · have h := h.1 c7
        obtain ⟨v8, e_v8⟩ : ∃ z : Int32, z = x3 + (1 : Int32) := ⟨_, rfl⟩
        have h := h v8 e_v8
        refine v_iinc (v := v8) dX10_turnPlaceByPlace_67 rfl (by rw [e_v8]; rfl) (by decide) rfl ?_
        refine v_ls (ls2 := [some (.ref 0), some (.int f1), some (.int f2), some (.int v8), some (.int x4), some (.int r5)]) rfl ?_
        obtain ⟨v9, e_v9⟩ : ∃ z : Int32, z = x4 + (1 : Int32) := ⟨_, rfl⟩
        have h := h v9 e_v9
        refine v_iinc (v := v9) dX10_turnPlaceByPlace_70 rfl (by rw [e_v9]; rfl) (by decide) rfl ?_
        refine v_ls (ls2 := [some (.ref 0), some (.int f1), some (.int f2), some (.int v8), some (.int v9), some (.int r5)]) rfl ?_
        refine v_goto (tgt := 5) dX10_turnPlaceByPlace_73 (by decide) ?_
        refine v_none 5 ?_
        refine v_ls (ls2 := [some (.ref 0), some (.int f1), some (.int f2), some (.int v8), some (.int v9), none]) rfl ?_
        exact ih v8 v9 _ h
      · have h := h.2 c7
        refine v_iload dX10_turnPlaceByPlace_55 rfl ?_
        refine v_if_ne (tgt := 64) dX10_turnPlaceByPlace_57 (by decide) (fun c10 => ?_) (fun c10 => ?_)
        · have h := h.1 c10
          refine v_iload dX10_turnPlaceByPlace_64 rfl ?_
          exact u_iret dX10_turnPlaceByPlace_66 ⟨rfl, id⟩ h
        · have h := h.2 c10
          refine v_iload_n dX10_turnPlaceByPlace_60 rfl rfl ?_
          refine v_goto (tgt := 66) dX10_turnPlaceByPlace_61 (by decide) ?_
          exact u_iret dX10_turnPlaceByPlace_66 ⟨rfl, id⟩ h
set_option maxRecDepth 100000 in
set_option maxHeartbeats 4000000 in
theorem v_X10_turnPlaceByPlace {d : Nat}  (a1 : Int32) (a2 : Int32) (τ : kT) (post : Int32 → kT → Prop) (h : T_X10_turnPlaceByPlace  a1 a2 τ post) : U yX10_turnPlaceByPlace cX10_turnPlaceByPlace 6 (some .int) (d + 4) kE0 0 [some (.ref 0), some (.int a1), some (.int a2), none, none, none] [] τ (k_pi post) := by
  unfold T_X10_turnPlaceByPlace at h
  refine v_iconst (v := 0) dX10_turnPlaceByPlace_0 (by decide) ?_
  refine v_istore_n dX10_turnPlaceByPlace_1 rfl (by decide) rfl ?_
  refine v_ls (ls2 := [some (.ref 0), some (.int a1), some (.int a2), some (.int (0 : Int32)), none, none]) rfl ?_
  refine v_iconst (v := 0) dX10_turnPlaceByPlace_2 (by decide) ?_
  refine v_istore dX10_turnPlaceByPlace_3 (by decide) rfl ?_
  refine v_ls (ls2 := [some (.ref 0), some (.int a1), some (.int a2), some (.int (0 : Int32)), some (.int (0 : Int32)), none]) rfl ?_
  obtain ⟨m11, h⟩ := h
  refine l_X10_turnPlaceByPlace_5  a1 a2 (fun v12 v13 τ14 h => ?_) m11 (0 : Int32) (0 : Int32) _ h
  refine v_iload_n dX10_turnPlaceByPlace_76 rfl rfl ?_
  exact u_iret dX10_turnPlaceByPlace_77 ⟨rfl, id⟩ h
def T_X10_turnAll (a1 : Int32) (a2 : Int32) (τ : kT) (post : Int32 → kT → Prop) : Prop := (T_X0_has a1 τ (fun r1 τ2 => ((r1 = 0 → post (-2 : Int32) τ2) ∧ (¬ r1 = 0 → (T_X5_has a2 τ2 (fun r4 τ5 => ((¬ r4 = 0 → (T_X8_begin  τ5 (fun τ8 => (T_X10_turnPlaceByPlace a1 a2 τ8 (fun r9 τ10 => (T_X10_settle r9 τ10 (fun r11 τ12 => post r11 τ12))))))) ∧ (r4 = 0 → post (-2 : Int32) τ5))))))))
set_option maxRecDepth 100000 in
set_option maxHeartbeats 4000000 in
theorem v_X10_turnAll {d : Nat}  (a1 : Int32) (a2 : Int32) (τ : kT) (post : Int32 → kT → Prop) (h : T_X10_turnAll  a1 a2 τ post) : U yX10_turnAll cX10_turnAll 3 (some .int) (d + 5) kE0 0 [some (.ref 0), some (.int a1), some (.int a2)] [] τ (k_pi post) := by
  unfold T_X10_turnAll at h
  refine v_aload_n dX10_turnAll_0 rfl rfl ?_
  refine u_getr fX10_10 dX10_turnAll_1 sh_0 rfl (by decide) (rf_0_0 _) ?_
  refine u_getr fX10_228 dX10_turnAll_4 sh_1 rfl (by decide) (rf_1_2 _) ?_
  refine v_iload_n dX10_turnAll_7 rfl rfl ?_
  refine u_callV [.int a1] mX0_has iX0_has lX10_232 dX10_turnAll_8 sh_15 rfl rfl (by decide) ⟨rfl, rfl, id⟩ rfl rfl (Nat.le_of_ble_eq_true rfl) (Nat.le_of_ble_eq_true rfl) (v_X0_has a1 _ _ h) ?_
  rintro _ τ2 ⟨r1, rfl, h⟩
  refine v_if_eq (tgt := 28) dX10_turnAll_11 (by decide) (fun c3 => ?_) (fun c3 => ?_)
  · have h := h.1 c3
    refine v_bipush (v := -2) dX10_turnAll_28 (by decide) ?_
    exact u_iret dX10_turnAll_30 ⟨rfl, id⟩ h
  · have h := h.2 c3
    refine v_aload_n dX10_turnAll_14 rfl rfl ?_
    refine u_getr fX10_10 dX10_turnAll_15 sh_0 rfl (by decide) (rf_0_0 _) ?_
    refine u_getr fX10_191 dX10_turnAll_18 sh_1 rfl (by decide) (rf_1_1 _) ?_
    refine v_iload_n dX10_turnAll_21 rfl rfl ?_
    refine u_callV [.int a2] mX5_has iX5_has lX10_202 dX10_turnAll_22 sh_9 rfl rfl (by decide) ⟨rfl, rfl, id⟩ rfl rfl (Nat.le_of_ble_eq_true rfl) (Nat.le_of_ble_eq_true rfl) (v_X5_has a2 _ _ h) ?_
    rintro _ τ5 ⟨r4, rfl, h⟩
    refine v_if_ne (tgt := 31) dX10_turnAll_25 (by decide) (fun c6 => ?_) (fun c6 => ?_)
    · have h := h.1 c6
      refine v_aload_n dX10_turnAll_31 rfl rfl ?_
      refine u_getr fX10_36 dX10_turnAll_32 sh_0 rfl (by decide) (rf_0_6 _) ?_
      refine u_callV [] mX8_begin iX8_begin lX10_217 dX10_turnAll_35 sh_39 rfl rfl (by decide) ⟨rfl, rfl, id⟩ rfl rfl (Nat.le_of_ble_eq_true rfl) (Nat.le_of_ble_eq_true rfl) (v_X8_begin  _ _ h) ?_
      rintro _ τ8 ⟨rfl, h⟩
      refine v_aload_n dX10_turnAll_38 rfl rfl ?_
      refine v_aload_n dX10_turnAll_39 rfl rfl ?_
      refine v_iload_n dX10_turnAll_40 rfl rfl ?_
      refine v_iload_n dX10_turnAll_41 rfl rfl ?_
      refine u_callV [.int a1, .int a2] mX10_turnPlaceByPlace iX10_turnPlaceByPlace lX10_235 dX10_turnAll_42 sh_0 rfl rfl (by decide) ⟨rfl, rfl, id⟩ rfl rfl (Nat.le_of_ble_eq_true rfl) (Nat.le_of_ble_eq_true rfl) (v_X10_turnPlaceByPlace a1 a2 _ _ h) ?_
      rintro _ τ10 ⟨r9, rfl, h⟩
      refine u_callV [.int r9] mX10_settle iX10_settle lX10_68 dX10_turnAll_45 sh_0 rfl rfl (by decide) ⟨rfl, rfl, id⟩ rfl rfl (Nat.le_of_ble_eq_true rfl) (Nat.le_of_ble_eq_true rfl) (v_X10_settle r9 _ _ h) ?_
      rintro _ τ12 ⟨r11, rfl, h⟩
      exact u_iret dX10_turnAll_48 ⟨rfl, id⟩ h
    · have h := h.2 c6
      refine v_bipush (v := -2) dX10_turnAll_28 (by decide) ?_
      exact u_iret dX10_turnAll_30 ⟨rfl, id⟩ h
def T_X10_at  (τ : kT) (post : Int32 → kT → Prop) : Prop := post (q_i τ 39 1) τ
set_option maxRecDepth 100000 in
set_option maxHeartbeats 4000000 in
theorem v_X10_at {d : Nat}   (τ : kT) (post : Int32 → kT → Prop) (h : T_X10_at   τ post) : U yX10_at cX10_at 1 (some .int) (d + 0) kE0 0 [some (.ref 0)] [] τ (k_pi post) := by
  unfold T_X10_at at h
  refine v_aload_n dX10_at_0 rfl rfl ?_
  refine u_getr fX10_36 dX10_at_1 sh_0 rfl (by decide) (rf_0_6 _) ?_
  refine u_geti fX10_244 dX10_at_4 sh_39 rfl (by decide) ?_
  exact u_iret dX10_at_7 ⟨rfl, id⟩ h
def T_X0_exchange (a1 : Int32) (a2 : Int32) (a3 : Int32) (τ : kT) (post : Int32 → kT → Prop) : Prop := (T_X0_cylinderAt a1 a2 τ (fun r1 τ2 => (T_X0_hasPlace a1 a2 τ2 (fun r3 τ4 => ((r3 = 0 → post r1 τ4) ∧ (¬ r3 = 0 → (∃ j6 : Nat, ((a1 * (20 : Int32)) + a2) = nI j6 ∧ j6 < 240 ∧ (∀ τ7 : kT, τ7 = q_si τ4 18 j6 a3 → post r1 τ7))))))))
set_option maxRecDepth 100000 in
set_option maxHeartbeats 4000000 in
theorem v_X0_exchange {d : Nat}  (a1 : Int32) (a2 : Int32) (a3 : Int32) (τ : kT) (post : Int32 → kT → Prop) (h : T_X0_exchange  a1 a2 a3 τ post) : U yX0_exchange cX0_exchange 5 (some .int) (d + 3) kE0 0 [some (.ref 15), some (.int a1), some (.int a2), some (.int a3), none] [] τ (k_pi post) := by
  unfold T_X0_exchange at h
  refine v_aload_n dX0_exchange_0 rfl rfl ?_
  refine v_iload_n dX0_exchange_1 rfl rfl ?_
  refine v_iload_n dX0_exchange_2 rfl rfl ?_
  refine u_callV [.int a1, .int a2] mX0_cylinderAt iX0_cylinderAt lX0_33 dX0_exchange_3 sh_15 rfl rfl (by decide) ⟨rfl, rfl, id⟩ rfl rfl (Nat.le_of_ble_eq_true rfl) (Nat.le_of_ble_eq_true rfl) (v_X0_cylinderAt a1 a2 _ _ h) ?_
  rintro _ τ2 ⟨r1, rfl, h⟩
  refine v_istore dX0_exchange_6 (by decide) rfl ?_
  refine v_ls (ls2 := [some (.ref 15), some (.int a1), some (.int a2), some (.int a3), some (.int r1)]) rfl ?_
  refine v_aload_n dX0_exchange_8 rfl rfl ?_
  refine v_iload_n dX0_exchange_9 rfl rfl ?_
  refine v_iload_n dX0_exchange_10 rfl rfl ?_
  refine u_callV [.int a1, .int a2] mX0_hasPlace iX0_hasPlace lX0_29 dX0_exchange_11 sh_15 rfl rfl (by decide) ⟨rfl, rfl, id⟩ rfl rfl (Nat.le_of_ble_eq_true rfl) (Nat.le_of_ble_eq_true rfl) (v_X0_hasPlace a1 a2 _ _ h) ?_
  rintro _ τ4 ⟨r3, rfl, h⟩
  refine v_if_eq (tgt := 29) dX0_exchange_14 (by decide) (fun c5 => ?_) (fun c5 => ?_)
  · have h := h.1 c5
    refine v_iload dX0_exchange_29 rfl ?_
    exact u_iret dX0_exchange_31 ⟨rfl, id⟩ h
  · have h := h.2 c5
    refine v_aload_n dX0_exchange_17 rfl rfl ?_
    refine u_getr fX0_18 dX0_exchange_18 sh_15 rfl (by decide) (rf_15_2 _) ?_
    refine v_iload_n dX0_exchange_21 rfl rfl ?_
    refine v_bipush (v := 20) dX0_exchange_22 (by decide) ?_
    refine v_imul dX0_exchange_24 ?_
    refine v_iload_n dX0_exchange_25 rfl rfl ?_
    refine v_iadd dX0_exchange_26 ?_
    refine v_iload_n dX0_exchange_27 rfl rfl ?_
    obtain ⟨j6, e_j6, l_j6, h⟩ := h
    refine u_iast dX0_exchange_28 sh_18 (by decide) (by decide) e_j6 l_j6 (fun τ7 e_τ7 => ?_)
    have h := h τ7 e_τ7
    refine v_iload dX0_exchange_29 rfl ?_
    exact u_iret dX0_exchange_31 ⟨rfl, id⟩ h
def L_X0_add_32  (f1 : Int32) (f2 : Int32) (f3 : Int32) (K : Int32 → kT → Prop) (post : Int32 → kT → Prop) : Nat → Int32 → kT → Prop
  | 0, _, _ => False
  | n + 1, x4, τ => ((f2 ≤ x4 → K x4 τ) ∧ (¬ f2 ≤ x4 → (T_X0_exchange f3 x4 (-1 : Int32) τ (fun r8 τ9 => (∀ v10 : Int32, v10 = x4 + (1 : Int32) → L_X0_add_32 f1 f2 f3 K post n v10 τ9)))))
def T_X0_add (a1 : Int32) (a2 : Int32) (τ : kT) (post : Int32 → kT → Prop) : Prop := (∀ v1 : Int32, v1 = (q_i τ 15 3) → (∀ τ2 : kT, τ2 = q_si τ 15 3 ((q_i τ 15 3) + (1 : Int32)) → (∃ j3 : Nat, v1 = nI j3 ∧ j3 < 12 ∧ (∀ τ4 : kT, τ4 = q_si τ2 16 j3 a1 → (∃ j5 : Nat, v1 = nI j5 ∧ j5 < 12 ∧ (∀ τ6 : kT, τ6 = q_si τ4 17 j5 a2 → (∃ m11 : Nat, L_X0_add_32  a1 a2 v1 (fun v12 τ13 => post v1 τ13) post m11 (0 : Int32) τ6)))))))
set_option maxRecDepth 100000 in
set_option maxHeartbeats 4000000 in
theorem l_X0_add_32 {d : Nat}  (f1 : Int32) (f2 : Int32) (f3 : Int32) {K : Int32 → kT → Prop} {post : Int32 → kT → Prop} (hK : ∀ (x4 : Int32) (τ : kT), K x4 τ → U yX0_add cX0_add 5 (some .int) (d + 4) kE0 53 [some (.ref 15), some (.int f1), some (.int f2), some (.int f3), some (.int x4)] [] τ (k_pi post)) : ∀ (n : Nat) (x4 : Int32) (τ : kT), L_X0_add_32  f1 f2 f3 K post n x4 τ → U yX0_add cX0_add 5 (some .int) (d + 4) kE0 32 [some (.ref 15), some (.int f1), some (.int f2), some (.int f3), some (.int x4)] [] τ (k_pi post) := by
  intro n
  induction n with
  | zero => intro x4 τ h; exact h.elim
  | succ n ih =>
    intro x4 τ h
    unfold L_X0_add_32 at h
    refine v_iload dX0_add_32 rfl ?_
    refine v_iload_n dX0_add_34 rfl rfl ?_
    refine v_icmp_ge (tgt := 53) dX0_add_35 (by decide) (fun c7 => ?_) (fun c7 => ?_)
    · have h := h.1 c7
      exact hK x4 _ h
    · have h := h.2 c7
      refine v_aload_n dX0_add_38 rfl rfl ?_
      refine v_iload_n dX0_add_39 rfl rfl ?_
      refine v_iload dX0_add_40 rfl ?_
      refine v_iconst (v := -1) dX0_add_42 (by decide) ?_
      refine u_callV [.int f3, .int x4, .int (-1 : Int32)] mX0_exchange iX0_exchange lX0_37 dX0_add_43 sh_15 rfl rfl (by decide) ⟨rfl, rfl, id⟩ rfl rfl (Nat.le_of_ble_eq_true rfl) (Nat.le_of_ble_eq_true rfl) (v_X0_exchange f3 x4 (-1 : Int32) _ _ h) ?_
      rintro _ τ9 ⟨r8, rfl, h⟩
      refine v_pop dX0_add_46 rfl ?_
      obtain ⟨v10, e_v10⟩ : ∃ z : Int32, z = x4 + (1 : Int32) := ⟨_, rfl⟩
      have h := h v10 e_v10
      refine v_iinc (v := v10) dX0_add_47 rfl (by rw [e_v10]; rfl) (by decide) rfl ?_
      refine v_ls (ls2 := [some (.ref 15), some (.int f1), some (.int f2), some (.int f3), some (.int v10)]) rfl ?_
      refine v_goto (tgt := 32) dX0_add_50 (by decide) ?_
      exact ih v10 _ h
set_option maxRecDepth 100000 in
set_option maxHeartbeats 4000000 in
theorem v_X0_add {d : Nat}  (a1 : Int32) (a2 : Int32) (τ : kT) (post : Int32 → kT → Prop) (h : T_X0_add  a1 a2 τ post) : U yX0_add cX0_add 5 (some .int) (d + 4) kE0 0 [some (.ref 15), some (.int a1), some (.int a2), none, none] [] τ (k_pi post) := by
  unfold T_X0_add at h
  refine v_aload_n dX0_add_0 rfl rfl ?_
  refine u_geti fX0_21 dX0_add_1 sh_15 rfl (by decide) ?_
  refine v_topi (fun v1 e_v1 => ?_)
  have h := h v1 e_v1
  refine v_istore_n dX0_add_4 rfl (by decide) rfl ?_
  refine v_ls (ls2 := [some (.ref 15), some (.int a1), some (.int a2), some (.int v1), none]) rfl ?_
  refine v_aload_n dX0_add_5 rfl rfl ?_
  refine v_dup dX0_add_6 rfl ?_
  refine u_geti fX0_21 dX0_add_7 sh_15 rfl (by decide) ?_
  refine v_iconst (v := 1) dX0_add_10 (by decide) ?_
  refine v_iadd dX0_add_11 ?_
  refine u_puti pX0_21 ⟨_, rfl⟩ dX0_add_12 sh_15 rfl (by decide) (by decide) (fun τ2 e_τ2 => ?_)
  have h := h τ2 e_τ2
  refine v_aload_n dX0_add_15 rfl rfl ?_
  refine u_getr fX0_9 dX0_add_16 sh_15 rfl (by decide) (rf_15_0 _) ?_
  refine v_iload_n dX0_add_19 rfl rfl ?_
  refine v_iload_n dX0_add_20 rfl rfl ?_
  obtain ⟨j3, e_j3, l_j3, h⟩ := h
  refine u_iast dX0_add_21 sh_16 (by decide) (by decide) e_j3 l_j3 (fun τ4 e_τ4 => ?_)
  have h := h τ4 e_τ4
  refine v_aload_n dX0_add_22 rfl rfl ?_
  refine u_getr fX0_15 dX0_add_23 sh_15 rfl (by decide) (rf_15_1 _) ?_
  refine v_iload_n dX0_add_26 rfl rfl ?_
  refine v_iload_n dX0_add_27 rfl rfl ?_
  obtain ⟨j5, e_j5, l_j5, h⟩ := h
  refine u_iast dX0_add_28 sh_17 (by decide) (by decide) e_j5 l_j5 (fun τ6 e_τ6 => ?_)
  have h := h τ6 e_τ6
  refine v_iconst (v := 0) dX0_add_29 (by decide) ?_
  refine v_istore dX0_add_30 (by decide) rfl ?_
  refine v_ls (ls2 := [some (.ref 15), some (.int a1), some (.int a2), some (.int v1), some (.int (0 : Int32))]) rfl ?_
  obtain ⟨m11, h⟩ := h
  refine l_X0_add_32  a1 a2 v1 (fun v12 τ13 h => ?_) m11 (0 : Int32) _ h
  refine v_iload_n dX0_add_53 rfl rfl ?_
  exact u_iret dX0_add_54 ⟨rfl, id⟩ h
def T_X10_makeCabinet (a1 : Int32) (a2 : Int32) (τ : kT) (post : Int32 → kT → Prop) : Prop := ((a1 < 0 → post (-2 : Int32) τ) ∧ (¬ a1 < 0 → (((4 : Int32) < a1 → post (-2 : Int32) τ) ∧ (¬ (4 : Int32) < a1 → ((a2 ≤ (20 : Int32) → (((q_i τ 15 3) < (12 : Int32) → ((0 ≤ a2 → (T_X10_remember  τ (fun τ7 => (T_X0_add a1 a2 τ7 (fun r8 τ9 => post r8 τ9))))) ∧ (¬ 0 ≤ a2 → post (-15 : Int32) τ))) ∧ (¬ (q_i τ 15 3) < (12 : Int32) → post (-4 : Int32) τ))) ∧ (¬ a2 ≤ (20 : Int32) → post (-2 : Int32) τ))))))
set_option maxRecDepth 100000 in
set_option maxHeartbeats 4000000 in
theorem v_X10_makeCabinet {d : Nat}  (a1 : Int32) (a2 : Int32) (τ : kT) (post : Int32 → kT → Prop) (h : T_X10_makeCabinet  a1 a2 τ post) : U yX10_makeCabinet cX10_makeCabinet 3 (some .int) (d + 5) kE0 0 [some (.ref 0), some (.int a1), some (.int a2)] [] τ (k_pi post) := by
  unfold T_X10_makeCabinet at h
  refine v_iload_n dX10_makeCabinet_0 rfl rfl ?_
  refine v_if_lt (tgt := 15) dX10_makeCabinet_1 (by decide) (fun c1 => ?_) (fun c1 => ?_)
  · have h := h.1 c1
    refine v_bipush (v := -2) dX10_makeCabinet_15 (by decide) ?_
    exact u_iret dX10_makeCabinet_17 ⟨rfl, id⟩ h
  · have h := h.2 c1
    refine v_iload_n dX10_makeCabinet_4 rfl rfl ?_
    refine v_iconst (v := 4) dX10_makeCabinet_5 (by decide) ?_
    refine v_icmp_gt (tgt := 15) dX10_makeCabinet_6 (by decide) (fun c2 => ?_) (fun c2 => ?_)
    · have h := h.1 c2
      refine v_bipush (v := -2) dX10_makeCabinet_15 (by decide) ?_
      exact u_iret dX10_makeCabinet_17 ⟨rfl, id⟩ h
    · have h := h.2 c2
      refine v_iload_n dX10_makeCabinet_9 rfl rfl ?_
      refine v_bipush (v := 20) dX10_makeCabinet_10 (by decide) ?_
      refine v_icmp_le (tgt := 18) dX10_makeCabinet_12 (by decide) (fun c3 => ?_) (fun c3 => ?_)
      · have h := h.1 c3
        refine v_aload_n dX10_makeCabinet_18 rfl rfl ?_
        refine u_getr fX10_10 dX10_makeCabinet_19 sh_0 rfl (by decide) (rf_0_0 _) ?_
        refine u_getr fX10_228 dX10_makeCabinet_22 sh_1 rfl (by decide) (rf_1_2 _) ?_
        refine u_geti fX10_250 dX10_makeCabinet_25 sh_15 rfl (by decide) ?_
        refine v_bipush (v := 12) dX10_makeCabinet_28 (by decide) ?_
        refine v_icmp_lt (tgt := 36) dX10_makeCabinet_30 (by decide) (fun c4 => ?_) (fun c4 => ?_)
        · have h := h.1 c4
          refine v_iload_n dX10_makeCabinet_36 rfl rfl ?_
          refine v_if_ge (tgt := 43) dX10_makeCabinet_37 (by decide) (fun c5 => ?_) (fun c5 => ?_)
          · have h := h.1 c5
            refine v_aload_n dX10_makeCabinet_43 rfl rfl ?_
            refine u_callV [] mX10_remember iX10_remember lX10_81 dX10_makeCabinet_44 sh_0 rfl rfl (by decide) ⟨rfl, rfl, id⟩ rfl rfl (Nat.le_of_ble_eq_true rfl) (Nat.le_of_ble_eq_true rfl) (v_X10_remember  _ _ h) ?_
            rintro _ τ7 ⟨rfl, h⟩
            refine v_aload_n dX10_makeCabinet_47 rfl rfl ?_
            refine u_getr fX10_10 dX10_makeCabinet_48 sh_0 rfl (by decide) (rf_0_0 _) ?_
            refine u_getr fX10_228 dX10_makeCabinet_51 sh_1 rfl (by decide) (rf_1_2 _) ?_
            refine v_iload_n dX10_makeCabinet_54 rfl rfl ?_
            refine v_iload_n dX10_makeCabinet_55 rfl rfl ?_
            refine u_callV [.int a1, .int a2] mX0_add iX0_add lX10_251 dX10_makeCabinet_56 sh_15 rfl rfl (by decide) ⟨rfl, rfl, id⟩ rfl rfl (Nat.le_of_ble_eq_true rfl) (Nat.le_of_ble_eq_true rfl) (v_X0_add a1 a2 _ _ h) ?_
            rintro _ τ9 ⟨r8, rfl, h⟩
            exact u_iret dX10_makeCabinet_59 ⟨rfl, id⟩ h
          · have h := h.2 c5
            refine v_bipush (v := -15) dX10_makeCabinet_40 (by decide) ?_
            exact u_iret dX10_makeCabinet_42 ⟨rfl, id⟩ h
        · have h := h.2 c4
          refine v_bipush (v := -4) dX10_makeCabinet_33 (by decide) ?_
          exact u_iret dX10_makeCabinet_35 ⟨rfl, id⟩ h
      · have h := h.2 c3
        refine v_bipush (v := -2) dX10_makeCabinet_15 (by decide) ?_
        exact u_iret dX10_makeCabinet_17 ⟨rfl, id⟩ h
def T_X10_cabinet (a1 : Int32) (a2 : Int32) (τ : kT) (post : Int32 → kT → Prop) : Prop := (T_X10_makeCabinet a1 a2 τ (fun r1 τ2 => (T_X10_settle r1 τ2 (fun r3 τ4 => post r3 τ4))))
set_option maxRecDepth 100000 in
set_option maxHeartbeats 4000000 in
theorem v_X10_cabinet {d : Nat}  (a1 : Int32) (a2 : Int32) (τ : kT) (post : Int32 → kT → Prop) (h : T_X10_cabinet  a1 a2 τ post) : U yX10_cabinet cX10_cabinet 3 (some .int) (d + 6) kE0 0 [some (.ref 0), some (.int a1), some (.int a2)] [] τ (k_pi post) := by
  unfold T_X10_cabinet at h
  refine v_aload_n dX10_cabinet_0 rfl rfl ?_
  refine v_aload_n dX10_cabinet_1 rfl rfl ?_
  refine v_iload_n dX10_cabinet_2 rfl rfl ?_
  refine v_iload_n dX10_cabinet_3 rfl rfl ?_
  refine u_callV [.int a1, .int a2] mX10_makeCabinet iX10_makeCabinet lX10_247 dX10_cabinet_4 sh_0 rfl rfl (by decide) ⟨rfl, rfl, id⟩ rfl rfl (Nat.le_of_ble_eq_true rfl) (Nat.le_of_ble_eq_true rfl) (v_X10_makeCabinet a1 a2 _ _ h) ?_
  rintro _ τ2 ⟨r1, rfl, h⟩
  refine u_callV [.int r1] mX10_settle iX10_settle lX10_68 dX10_cabinet_7 sh_0 rfl rfl (by decide) ⟨rfl, rfl, id⟩ rfl rfl (Nat.le_of_ble_eq_true rfl) (Nat.le_of_ble_eq_true rfl) (v_X10_settle r1 _ _ h) ?_
  rintro _ τ4 ⟨r3, rfl, h⟩
  exact u_iret dX10_cabinet_10 ⟨rfl, id⟩ h
def T_X10_putInside (a1 : Int32) (a2 : Int32) (a3 : Int32) (τ : kT) (post : Int32 → kT → Prop) : Prop := (T_X0_has a1 τ (fun r1 τ2 => ((r1 = 0 → post (-2 : Int32) τ2) ∧ (¬ r1 = 0 → (T_X4_hasOrNone a3 τ2 (fun r4 τ5 => ((¬ r4 = 0 → (T_X0_hasPlace a1 a2 τ5 (fun r7 τ8 => ((¬ r7 = 0 → ((a3 = (-1 : Int32) → (T_X10_remember  τ8 (fun τ12 => (T_X0_exchange a1 a2 a3 τ12 (fun r13 τ14 => post r13 τ14))))) ∧ (¬ a3 = (-1 : Int32) → (∃ j15 : Nat, a1 = nI j15 ∧ j15 < 12 ∧ (T_X4_isOf a3 (q_i τ8 16 j15) τ8 (fun r16 τ17 => ((¬ r16 = 0 → (T_X10_remember  τ17 (fun τ20 => (T_X0_exchange a1 a2 a3 τ20 (fun r21 τ22 => post r21 τ22))))) ∧ (r16 = 0 → post (-14 : Int32) τ17)))))))) ∧ (r7 = 0 → post (-12 : Int32) τ8))))) ∧ (r4 = 0 → post (-2 : Int32) τ5))))))))
set_option maxRecDepth 100000 in
set_option maxHeartbeats 4000000 in
theorem v_X10_putInside {d : Nat}  (a1 : Int32) (a2 : Int32) (a3 : Int32) (τ : kT) (post : Int32 → kT → Prop) (h : T_X10_putInside  a1 a2 a3 τ post) : U yX10_putInside cX10_putInside 4 (some .int) (d + 4) kE0 0 [some (.ref 0), some (.int a1), some (.int a2), some (.int a3)] [] τ (k_pi post) := by
  unfold T_X10_putInside at h
  refine v_aload_n dX10_putInside_0 rfl rfl ?_
  refine u_getr fX10_10 dX10_putInside_1 sh_0 rfl (by decide) (rf_0_0 _) ?_
  refine u_getr fX10_228 dX10_putInside_4 sh_1 rfl (by decide) (rf_1_2 _) ?_
  refine v_iload_n dX10_putInside_7 rfl rfl ?_
  refine u_callV [.int a1] mX0_has iX0_has lX10_232 dX10_putInside_8 sh_15 rfl rfl (by decide) ⟨rfl, rfl, id⟩ rfl rfl (Nat.le_of_ble_eq_true rfl) (Nat.le_of_ble_eq_true rfl) (v_X0_has a1 _ _ h) ?_
  rintro _ τ2 ⟨r1, rfl, h⟩
  refine v_if_eq (tgt := 28) dX10_putInside_11 (by decide) (fun c3 => ?_) (fun c3 => ?_)
  · have h := h.1 c3
    refine v_bipush (v := -2) dX10_putInside_28 (by decide) ?_
    exact u_iret dX10_putInside_30 ⟨rfl, id⟩ h
  · have h := h.2 c3
    refine v_aload_n dX10_putInside_14 rfl rfl ?_
    refine u_getr fX10_10 dX10_putInside_15 sh_0 rfl (by decide) (rf_0_0 _) ?_
    refine u_getr fX10_72 dX10_putInside_18 sh_1 rfl (by decide) (rf_1_0 _) ?_
    refine v_iload_n dX10_putInside_21 rfl rfl ?_
    refine u_callV [.int a3] mX4_hasOrNone iX4_hasOrNone lX10_90 dX10_putInside_22 sh_2 rfl rfl (by decide) ⟨rfl, rfl, id⟩ rfl rfl (Nat.le_of_ble_eq_true rfl) (Nat.le_of_ble_eq_true rfl) (v_X4_hasOrNone a3 _ _ h) ?_
    rintro _ τ5 ⟨r4, rfl, h⟩
    refine v_if_ne (tgt := 31) dX10_putInside_25 (by decide) (fun c6 => ?_) (fun c6 => ?_)
    · have h := h.1 c6
      refine v_aload_n dX10_putInside_31 rfl rfl ?_
      refine u_getr fX10_10 dX10_putInside_32 sh_0 rfl (by decide) (rf_0_0 _) ?_
      refine u_getr fX10_228 dX10_putInside_35 sh_1 rfl (by decide) (rf_1_2 _) ?_
      refine v_iload_n dX10_putInside_38 rfl rfl ?_
      refine v_iload_n dX10_putInside_39 rfl rfl ?_
      refine u_callV [.int a1, .int a2] mX0_hasPlace iX0_hasPlace lX10_255 dX10_putInside_40 sh_15 rfl rfl (by decide) ⟨rfl, rfl, id⟩ rfl rfl (Nat.le_of_ble_eq_true rfl) (Nat.le_of_ble_eq_true rfl) (v_X0_hasPlace a1 a2 _ _ h) ?_
      rintro _ τ8 ⟨r7, rfl, h⟩
      refine v_if_ne (tgt := 49) dX10_putInside_43 (by decide) (fun c9 => ?_) (fun c9 => ?_)
      · have h := h.1 c9
        refine v_iload_n dX10_putInside_49 rfl rfl ?_
        refine v_iconst (v := -1) dX10_putInside_50 (by decide) ?_
        refine v_icmp_eq (tgt := 83) dX10_putInside_51 (by decide) (fun c10 => ?_) (fun c10 => ?_)
        · have h := h.1 c10
          refine v_aload_n dX10_putInside_83 rfl rfl ?_
          refine u_callV [] mX10_remember iX10_remember lX10_81 dX10_putInside_84 sh_0 rfl rfl (by decide) ⟨rfl, rfl, id⟩ rfl rfl (Nat.le_of_ble_eq_true rfl) (Nat.le_of_ble_eq_true rfl) (v_X10_remember  _ _ h) ?_
          rintro _ τ12 ⟨rfl, h⟩
          refine v_aload_n dX10_putInside_87 rfl rfl ?_
          refine u_getr fX10_10 dX10_putInside_88 sh_0 rfl (by decide) (rf_0_0 _) ?_
          refine u_getr fX10_228 dX10_putInside_91 sh_1 rfl (by decide) (rf_1_2 _) ?_
          refine v_iload_n dX10_putInside_94 rfl rfl ?_
          refine v_iload_n dX10_putInside_95 rfl rfl ?_
          refine v_iload_n dX10_putInside_96 rfl rfl ?_
          refine u_callV [.int a1, .int a2, .int a3] mX0_exchange iX0_exchange lX10_262 dX10_putInside_97 sh_15 rfl rfl (by decide) ⟨rfl, rfl, id⟩ rfl rfl (Nat.le_of_ble_eq_true rfl) (Nat.le_of_ble_eq_true rfl) (v_X0_exchange a1 a2 a3 _ _ h) ?_
          rintro _ τ14 ⟨r13, rfl, h⟩
          exact u_iret dX10_putInside_100 ⟨rfl, id⟩ h
        · have h := h.2 c10
          refine v_aload_n dX10_putInside_54 rfl rfl ?_
          refine u_getr fX10_10 dX10_putInside_55 sh_0 rfl (by decide) (rf_0_0 _) ?_
          refine u_getr fX10_72 dX10_putInside_58 sh_1 rfl (by decide) (rf_1_0 _) ?_
          refine v_iload_n dX10_putInside_61 rfl rfl ?_
          refine v_aload_n dX10_putInside_62 rfl rfl ?_
          refine u_getr fX10_10 dX10_putInside_63 sh_0 rfl (by decide) (rf_0_0 _) ?_
          refine u_getr fX10_228 dX10_putInside_66 sh_1 rfl (by decide) (rf_1_2 _) ?_
          refine u_getr fX10_258 dX10_putInside_69 sh_15 rfl (by decide) (rf_15_0 _) ?_
          refine v_iload_n dX10_putInside_72 rfl rfl ?_
          obtain ⟨j15, e_j15, l_j15, h⟩ := h
          refine u_iald dX10_putInside_73 sh_16 (by decide) (by decide) e_j15 l_j15 ?_
          refine u_callV [.int a3, .int (q_i τ8 16 j15)] mX4_isOf iX4_isOf lX10_259 dX10_putInside_74 sh_2 rfl rfl (by decide) ⟨rfl, rfl, id⟩ rfl rfl (Nat.le_of_ble_eq_true rfl) (Nat.le_of_ble_eq_true rfl) (v_X4_isOf a3 (q_i τ8 16 j15) _ _ h) ?_
          rintro _ τ17 ⟨r16, rfl, h⟩
          refine v_if_ne (tgt := 83) dX10_putInside_77 (by decide) (fun c18 => ?_) (fun c18 => ?_)
          · have h := h.1 c18
            refine v_aload_n dX10_putInside_83 rfl rfl ?_
            refine u_callV [] mX10_remember iX10_remember lX10_81 dX10_putInside_84 sh_0 rfl rfl (by decide) ⟨rfl, rfl, id⟩ rfl rfl (Nat.le_of_ble_eq_true rfl) (Nat.le_of_ble_eq_true rfl) (v_X10_remember  _ _ h) ?_
            rintro _ τ20 ⟨rfl, h⟩
            refine v_aload_n dX10_putInside_87 rfl rfl ?_
            refine u_getr fX10_10 dX10_putInside_88 sh_0 rfl (by decide) (rf_0_0 _) ?_
            refine u_getr fX10_228 dX10_putInside_91 sh_1 rfl (by decide) (rf_1_2 _) ?_
            refine v_iload_n dX10_putInside_94 rfl rfl ?_
            refine v_iload_n dX10_putInside_95 rfl rfl ?_
            refine v_iload_n dX10_putInside_96 rfl rfl ?_
            refine u_callV [.int a1, .int a2, .int a3] mX0_exchange iX0_exchange lX10_262 dX10_putInside_97 sh_15 rfl rfl (by decide) ⟨rfl, rfl, id⟩ rfl rfl (Nat.le_of_ble_eq_true rfl) (Nat.le_of_ble_eq_true rfl) (v_X0_exchange a1 a2 a3 _ _ h) ?_
            rintro _ τ22 ⟨r21, rfl, h⟩
            exact u_iret dX10_putInside_100 ⟨rfl, id⟩ h
          · have h := h.2 c18
            refine v_bipush (v := -14) dX10_putInside_80 (by decide) ?_
            exact u_iret dX10_putInside_82 ⟨rfl, id⟩ h
      · have h := h.2 c9
        refine v_bipush (v := -12) dX10_putInside_46 (by decide) ?_
        exact u_iret dX10_putInside_48 ⟨rfl, id⟩ h
    · have h := h.2 c6
      refine v_bipush (v := -2) dX10_putInside_28 (by decide) ?_
      exact u_iret dX10_putInside_30 ⟨rfl, id⟩ h
def T_X10_put (a1 : Int32) (a2 : Int32) (a3 : Int32) (τ : kT) (post : Int32 → kT → Prop) : Prop := (T_X10_putInside a1 a2 a3 τ (fun r1 τ2 => (T_X10_settle r1 τ2 (fun r3 τ4 => post r3 τ4))))
set_option maxRecDepth 100000 in
set_option maxHeartbeats 4000000 in
theorem v_X10_put {d : Nat}  (a1 : Int32) (a2 : Int32) (a3 : Int32) (τ : kT) (post : Int32 → kT → Prop) (h : T_X10_put  a1 a2 a3 τ post) : U yX10_put cX10_put 4 (some .int) (d + 5) kE0 0 [some (.ref 0), some (.int a1), some (.int a2), some (.int a3)] [] τ (k_pi post) := by
  unfold T_X10_put at h
  refine v_aload_n dX10_put_0 rfl rfl ?_
  refine v_aload_n dX10_put_1 rfl rfl ?_
  refine v_iload_n dX10_put_2 rfl rfl ?_
  refine v_iload_n dX10_put_3 rfl rfl ?_
  refine v_iload_n dX10_put_4 rfl rfl ?_
  refine u_callV [.int a1, .int a2, .int a3] mX10_putInside iX10_putInside lX10_252 dX10_put_5 sh_0 rfl rfl (by decide) ⟨rfl, rfl, id⟩ rfl rfl (Nat.le_of_ble_eq_true rfl) (Nat.le_of_ble_eq_true rfl) (v_X10_putInside a1 a2 a3 _ _ h) ?_
  rintro _ τ2 ⟨r1, rfl, h⟩
  refine u_callV [.int r1] mX10_settle iX10_settle lX10_68 dX10_put_8 sh_0 rfl rfl (by decide) ⟨rfl, rfl, id⟩ rfl rfl (Nat.le_of_ble_eq_true rfl) (Nat.le_of_ble_eq_true rfl) (v_X10_settle r1 _ _ h) ?_
  rintro _ τ4 ⟨r3, rfl, h⟩
  exact u_iret dX10_put_11 ⟨rfl, id⟩ h
def T_X10_inside (a1 : Int32) (a2 : Int32) (τ : kT) (post : Int32 → kT → Prop) : Prop := (T_X0_has a1 τ (fun r1 τ2 => ((¬ r1 = 0 → (T_X0_hasPlace a1 a2 τ2 (fun r4 τ5 => ((r4 = 0 → (T_X10_settle (-12 : Int32) τ5 (fun r7 τ8 => post r7 τ8))) ∧ (¬ r4 = 0 → (T_X0_cylinderAt a1 a2 τ5 (fun r9 τ10 => (T_X10_settle r9 τ10 (fun r11 τ12 => post r11 τ12))))))))) ∧ (r1 = 0 → post (-2 : Int32) τ2))))
set_option maxRecDepth 100000 in
set_option maxHeartbeats 4000000 in
theorem v_X10_inside {d : Nat}  (a1 : Int32) (a2 : Int32) (τ : kT) (post : Int32 → kT → Prop) (h : T_X10_inside  a1 a2 τ post) : U yX10_inside cX10_inside 3 (some .int) (d + 3) kE0 0 [some (.ref 0), some (.int a1), some (.int a2)] [] τ (k_pi post) := by
  unfold T_X10_inside at h
  refine v_aload_n dX10_inside_0 rfl rfl ?_
  refine u_getr fX10_10 dX10_inside_1 sh_0 rfl (by decide) (rf_0_0 _) ?_
  refine u_getr fX10_228 dX10_inside_4 sh_1 rfl (by decide) (rf_1_2 _) ?_
  refine v_iload_n dX10_inside_7 rfl rfl ?_
  refine u_callV [.int a1] mX0_has iX0_has lX10_232 dX10_inside_8 sh_15 rfl rfl (by decide) ⟨rfl, rfl, id⟩ rfl rfl (Nat.le_of_ble_eq_true rfl) (Nat.le_of_ble_eq_true rfl) (v_X0_has a1 _ _ h) ?_
  rintro _ τ2 ⟨r1, rfl, h⟩
  refine v_if_ne (tgt := 17) dX10_inside_11 (by decide) (fun c3 => ?_) (fun c3 => ?_)
  · have h := h.1 c3
    refine v_aload_n dX10_inside_17 rfl rfl ?_
    refine v_aload_n dX10_inside_18 rfl rfl ?_
    refine u_getr fX10_10 dX10_inside_19 sh_0 rfl (by decide) (rf_0_0 _) ?_
    refine u_getr fX10_228 dX10_inside_22 sh_1 rfl (by decide) (rf_1_2 _) ?_
    refine v_iload_n dX10_inside_25 rfl rfl ?_
    refine v_iload_n dX10_inside_26 rfl rfl ?_
    refine u_callV [.int a1, .int a2] mX0_hasPlace iX0_hasPlace lX10_255 dX10_inside_27 sh_15 rfl rfl (by decide) ⟨rfl, rfl, id⟩ rfl rfl (Nat.le_of_ble_eq_true rfl) (Nat.le_of_ble_eq_true rfl) (v_X0_hasPlace a1 a2 _ _ h) ?_
    rintro _ τ5 ⟨r4, rfl, h⟩
    refine v_if_eq (tgt := 48) dX10_inside_30 (by decide) (fun c6 => ?_) (fun c6 => ?_)
    · have h := h.1 c6
      refine v_bipush (v := -12) dX10_inside_48 (by decide) ?_
      refine u_callV [.int (-12 : Int32)] mX10_settle iX10_settle lX10_68 dX10_inside_50 sh_0 rfl rfl (by decide) ⟨rfl, rfl, id⟩ rfl rfl (Nat.le_of_ble_eq_true rfl) (Nat.le_of_ble_eq_true rfl) (v_X10_settle (-12 : Int32) _ _ h) ?_
      rintro _ τ8 ⟨r7, rfl, h⟩
      exact u_iret dX10_inside_53 ⟨rfl, id⟩ h
    · have h := h.2 c6
      refine v_aload_n dX10_inside_33 rfl rfl ?_
      refine u_getr fX10_10 dX10_inside_34 sh_0 rfl (by decide) (rf_0_0 _) ?_
      refine u_getr fX10_228 dX10_inside_37 sh_1 rfl (by decide) (rf_1_2 _) ?_
      refine v_iload_n dX10_inside_40 rfl rfl ?_
      refine v_iload_n dX10_inside_41 rfl rfl ?_
      refine u_callV [.int a1, .int a2] mX0_cylinderAt iX0_cylinderAt lX10_241 dX10_inside_42 sh_15 rfl rfl (by decide) ⟨rfl, rfl, id⟩ rfl rfl (Nat.le_of_ble_eq_true rfl) (Nat.le_of_ble_eq_true rfl) (v_X0_cylinderAt a1 a2 _ _ h) ?_
      rintro _ τ10 ⟨r9, rfl, h⟩
      refine v_goto (tgt := 50) dX10_inside_45 (by decide) ?_
      refine u_callV [.int r9] mX10_settle iX10_settle lX10_68 dX10_inside_50 sh_0 rfl rfl (by decide) ⟨rfl, rfl, id⟩ rfl rfl (Nat.le_of_ble_eq_true rfl) (Nat.le_of_ble_eq_true rfl) (v_X10_settle r9 _ _ h) ?_
      rintro _ τ12 ⟨r11, rfl, h⟩
      exact u_iret dX10_inside_53 ⟨rfl, id⟩ h
  · have h := h.2 c3
    refine v_bipush (v := -2) dX10_inside_14 (by decide) ?_
    exact u_iret dX10_inside_16 ⟨rfl, id⟩ h
def T_X10_door  (τ : kT) (post : Int32 → kT → Prop) : Prop := (((q_i τ 1 4) < (40 : Int32) → (T_X10_remember  τ (fun τ3 => (∃ j4 : Nat, (q_i τ3 1 4) = nI j4 ∧ j4 < 40 ∧ (∀ τ5 : kT, τ5 = q_si τ3 19 j4 (-1 : Int32) → (∀ τ6 : kT, τ6 = q_si τ5 1 4 ((q_i τ5 1 4) + (1 : Int32)) → post ((q_i τ6 1 4) - (1 : Int32)) τ6)))))) ∧ (¬ (q_i τ 1 4) < (40 : Int32) → post (-4 : Int32) τ))
set_option maxRecDepth 100000 in
set_option maxHeartbeats 4000000 in
theorem v_X10_door {d : Nat}   (τ : kT) (post : Int32 → kT → Prop) (h : T_X10_door   τ post) : U yX10_door cX10_door 1 (some .int) (d + 4) kE0 0 [some (.ref 0)] [] τ (k_pi post) := by
  unfold T_X10_door at h
  refine v_aload_n dX10_door_0 rfl rfl ?_
  refine u_getr fX10_10 dX10_door_1 sh_0 rfl (by decide) (rf_0_0 _) ?_
  refine u_geti fX10_265 dX10_door_4 sh_1 rfl (by decide) ?_
  refine v_bipush (v := 40) dX10_door_7 (by decide) ?_
  refine v_icmp_lt (tgt := 15) dX10_door_9 (by decide) (fun c1 => ?_) (fun c1 => ?_)
  · have h := h.1 c1
    refine v_aload_n dX10_door_15 rfl rfl ?_
    refine u_callV [] mX10_remember iX10_remember lX10_81 dX10_door_16 sh_0 rfl rfl (by decide) ⟨rfl, rfl, id⟩ rfl rfl (Nat.le_of_ble_eq_true rfl) (Nat.le_of_ble_eq_true rfl) (v_X10_remember  _ _ h) ?_
    rintro _ τ3 ⟨rfl, h⟩
    refine v_aload_n dX10_door_19 rfl rfl ?_
    refine u_getr fX10_10 dX10_door_20 sh_0 rfl (by decide) (rf_0_0 _) ?_
    refine u_getr fX10_225 dX10_door_23 sh_1 rfl (by decide) (rf_1_3 _) ?_
    refine v_aload_n dX10_door_26 rfl rfl ?_
    refine u_getr fX10_10 dX10_door_27 sh_0 rfl (by decide) (rf_0_0 _) ?_
    refine u_geti fX10_265 dX10_door_30 sh_1 rfl (by decide) ?_
    refine v_iconst (v := -1) dX10_door_33 (by decide) ?_
    obtain ⟨j4, e_j4, l_j4, h⟩ := h
    refine u_iast dX10_door_34 sh_19 (by decide) (by decide) e_j4 l_j4 (fun τ5 e_τ5 => ?_)
    have h := h τ5 e_τ5
    refine v_aload_n dX10_door_35 rfl rfl ?_
    refine u_getr fX10_10 dX10_door_36 sh_0 rfl (by decide) (rf_0_0 _) ?_
    refine v_dup dX10_door_39 rfl ?_
    refine u_geti fX10_265 dX10_door_40 sh_1 rfl (by decide) ?_
    refine v_iconst (v := 1) dX10_door_43 (by decide) ?_
    refine v_iadd dX10_door_44 ?_
    refine u_puti pX10_265 ⟨_, rfl⟩ dX10_door_45 sh_1 rfl (by decide) (by decide) (fun τ6 e_τ6 => ?_)
    have h := h τ6 e_τ6
    refine v_aload_n dX10_door_48 rfl rfl ?_
    refine u_getr fX10_10 dX10_door_49 sh_0 rfl (by decide) (rf_0_0 _) ?_
    refine u_geti fX10_265 dX10_door_52 sh_1 rfl (by decide) ?_
    refine v_iconst (v := 1) dX10_door_55 (by decide) ?_
    refine v_isub dX10_door_56 ?_
    exact u_iret dX10_door_57 ⟨rfl, id⟩ h
  · have h := h.2 c1
    refine v_bipush (v := -4) dX10_door_12 (by decide) ?_
    exact u_iret dX10_door_14 ⟨rfl, id⟩ h
def T_X10_fit (a1 : Int32) (a2 : Int32) (τ : kT) (post : Int32 → kT → Prop) : Prop := (T_X6_hasDoor a1 τ (fun r1 τ2 => ((r1 = 0 → post (-2 : Int32) τ2) ∧ (¬ r1 = 0 → (T_X4_hasOrNone a2 τ2 (fun r4 τ5 => ((¬ r4 = 0 → (T_X10_remember  τ5 (fun τ8 => (∃ j9 : Nat, a1 = nI j9 ∧ j9 < 40 ∧ (∀ v10 : Int32, v10 = (q_i τ8 19 j9) → (∃ j11 : Nat, a1 = nI j11 ∧ j11 < 40 ∧ (∀ τ12 : kT, τ12 = q_si τ8 19 j11 a2 → post v10 τ12))))))) ∧ (r4 = 0 → post (-2 : Int32) τ5))))))))
set_option maxRecDepth 100000 in
set_option maxHeartbeats 4000000 in
theorem v_X10_fit {d : Nat}  (a1 : Int32) (a2 : Int32) (τ : kT) (post : Int32 → kT → Prop) (h : T_X10_fit  a1 a2 τ post) : U yX10_fit cX10_fit 4 (some .int) (d + 4) kE0 0 [some (.ref 0), some (.int a1), some (.int a2), none] [] τ (k_pi post) := by
  unfold T_X10_fit at h
  refine v_aload_n dX10_fit_0 rfl rfl ?_
  refine u_getr fX10_10 dX10_fit_1 sh_0 rfl (by decide) (rf_0_0 _) ?_
  refine v_iload_n dX10_fit_4 rfl rfl ?_
  refine u_callV [.int a1] mX6_hasDoor iX6_hasDoor lX10_222 dX10_fit_5 sh_1 rfl rfl (by decide) ⟨rfl, rfl, id⟩ rfl rfl (Nat.le_of_ble_eq_true rfl) (Nat.le_of_ble_eq_true rfl) (v_X6_hasDoor a1 _ _ h) ?_
  rintro _ τ2 ⟨r1, rfl, h⟩
  refine v_if_eq (tgt := 25) dX10_fit_8 (by decide) (fun c3 => ?_) (fun c3 => ?_)
  · have h := h.1 c3
    refine v_bipush (v := -2) dX10_fit_25 (by decide) ?_
    exact u_iret dX10_fit_27 ⟨rfl, id⟩ h
  · have h := h.2 c3
    refine v_aload_n dX10_fit_11 rfl rfl ?_
    refine u_getr fX10_10 dX10_fit_12 sh_0 rfl (by decide) (rf_0_0 _) ?_
    refine u_getr fX10_72 dX10_fit_15 sh_1 rfl (by decide) (rf_1_0 _) ?_
    refine v_iload_n dX10_fit_18 rfl rfl ?_
    refine u_callV [.int a2] mX4_hasOrNone iX4_hasOrNone lX10_90 dX10_fit_19 sh_2 rfl rfl (by decide) ⟨rfl, rfl, id⟩ rfl rfl (Nat.le_of_ble_eq_true rfl) (Nat.le_of_ble_eq_true rfl) (v_X4_hasOrNone a2 _ _ h) ?_
    rintro _ τ5 ⟨r4, rfl, h⟩
    refine v_if_ne (tgt := 28) dX10_fit_22 (by decide) (fun c6 => ?_) (fun c6 => ?_)
    · have h := h.1 c6
      refine v_aload_n dX10_fit_28 rfl rfl ?_
      refine u_callV [] mX10_remember iX10_remember lX10_81 dX10_fit_29 sh_0 rfl rfl (by decide) ⟨rfl, rfl, id⟩ rfl rfl (Nat.le_of_ble_eq_true rfl) (Nat.le_of_ble_eq_true rfl) (v_X10_remember  _ _ h) ?_
      rintro _ τ8 ⟨rfl, h⟩
      refine v_aload_n dX10_fit_32 rfl rfl ?_
      refine u_getr fX10_10 dX10_fit_33 sh_0 rfl (by decide) (rf_0_0 _) ?_
      refine u_getr fX10_225 dX10_fit_36 sh_1 rfl (by decide) (rf_1_3 _) ?_
      refine v_iload_n dX10_fit_39 rfl rfl ?_
      obtain ⟨j9, e_j9, l_j9, h⟩ := h
      refine u_iald dX10_fit_40 sh_19 (by decide) (by decide) e_j9 l_j9 ?_
      refine v_topi (fun v10 e_v10 => ?_)
      have h := h v10 e_v10
      refine v_istore_n dX10_fit_41 rfl (by decide) rfl ?_
      refine v_ls (ls2 := [some (.ref 0), some (.int a1), some (.int a2), some (.int v10)]) rfl ?_
      refine v_aload_n dX10_fit_42 rfl rfl ?_
      refine u_getr fX10_10 dX10_fit_43 sh_0 rfl (by decide) (rf_0_0 _) ?_
      refine u_getr fX10_225 dX10_fit_46 sh_1 rfl (by decide) (rf_1_3 _) ?_
      refine v_iload_n dX10_fit_49 rfl rfl ?_
      refine v_iload_n dX10_fit_50 rfl rfl ?_
      obtain ⟨j11, e_j11, l_j11, h⟩ := h
      refine u_iast dX10_fit_51 sh_19 (by decide) (by decide) e_j11 l_j11 (fun τ12 e_τ12 => ?_)
      have h := h τ12 e_τ12
      refine v_iload_n dX10_fit_52 rfl rfl ?_
      exact u_iret dX10_fit_53 ⟨rfl, id⟩ h
    · have h := h.2 c6
      refine v_bipush (v := -2) dX10_fit_25 (by decide) ?_
      exact u_iret dX10_fit_27 ⟨rfl, id⟩ h
