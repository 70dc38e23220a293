def T_X11_in (a1 : Int64) (a2 : Int64) (a3 : Int64) (τ : kT) (post : Int32 → kT → Prop) : Prop := (((lg_cmp a1 a2) < 0 → post (0 : Int32) τ) ∧ (¬ (lg_cmp a1 a2) < 0 → ((0 < (lg_cmp a1 a3) → post (0 : Int32) τ) ∧ (¬ 0 < (lg_cmp a1 a3) → post (1 : Int32) τ))))
set_option maxRecDepth 100000 in
set_option maxHeartbeats 4000000 in
theorem v_X11_in {d : Nat}  (a1 : Int64) (a2 : Int64) (a3 : Int64) (τ : kT) (post : Int32 → kT → Prop) (h : T_X11_in  a1 a2 a3 τ post) : U yX11_in cX11_in 6 (some .boolean) (d + 0) kE0 0 [some (.long a1), none, some (.long a2), none, some (.long a3), none] [] τ (k_pi post) := by
  unfold T_X11_in at h
  refine v_lload_n dX11_in_0 rfl rfl ?_
  refine v_lload_n dX11_in_1 rfl rfl ?_
  refine v_lcmp dX11_in_2 ?_
  refine v_if_lt (tgt := 17) dX11_in_3 (by decide) (fun c1 => ?_) (fun c1 => ?_)
  · have h := h.1 c1
    refine v_iconst (v := 0) dX11_in_17 (by decide) ?_
    exact u_zret dX11_in_18 rfl ⟨rfl, id⟩ h
  · have h := h.2 c1
    refine v_lload_n dX11_in_6 rfl rfl ?_
    refine v_lload dX11_in_7 rfl ?_
    refine v_lcmp dX11_in_9 ?_
    refine v_if_gt (tgt := 17) dX11_in_10 (by decide) (fun c2 => ?_) (fun c2 => ?_)
    · have h := h.1 c2
      refine v_iconst (v := 0) dX11_in_17 (by decide) ?_
      exact u_zret dX11_in_18 rfl ⟨rfl, id⟩ h
    · have h := h.2 c2
      refine v_iconst (v := 1) dX11_in_13 (by decide) ?_
      refine v_goto (tgt := 18) dX11_in_14 (by decide) ?_
      exact u_zret dX11_in_18 rfl ⟨rfl, id⟩ h
def L_X11_change_2   (K : Int32 → kT → Prop) (post : kT → Prop) : Nat → Int32 → kT → Prop
  | 0, _, _ => False
  | n + 1, x1, τ => (((8530 : Int32) ≤ x1 → K x1 τ) ∧ (¬ (8530 : Int32) ≤ x1 → (∃ j2 : Nat, x1 = nI j2 ∧ j2 < 8530 ∧ (∃ j3 : Nat, x1 = nI j3 ∧ j3 < 8530 ∧ (∀ τ4 : kT, τ4 = q_si τ 68 j3 (q_i τ 67 j2) → (∀ v5 : Int32, v5 = x1 + (1 : Int32) → L_X11_change_2  K post n v5 τ4))))))
def T_X11_change  (τ : kT) (post : kT → Prop) : Prop := (∃ m6 : Nat, L_X11_change_2   (fun v7 τ8 => (∀ τ9 : kT, τ9 = q_si τ8 66 2 (1 : Int32) → post τ9)) post m6 (0 : Int32) τ)
set_option maxRecDepth 100000 in
set_option maxHeartbeats 4000000 in
theorem l_X11_change_2 {d : Nat}   {K : Int32 → kT → Prop} {post : kT → Prop} (hK : ∀ (x1 : Int32) (τ : kT), K x1 τ → U yX11_change cX11_change 2 none (d + 0) kE0 27 [some (.ref 66), some (.int x1)] [] τ (k_pv post)) : ∀ (n : Nat) (x1 : Int32) (τ : kT), L_X11_change_2   K post n x1 τ → U yX11_change cX11_change 2 none (d + 0) kE0 2 [some (.ref 66), some (.int x1)] [] τ (k_pv post) := by
  intro n
  induction n with
  | zero => intro x1 τ h; exact h.elim
  | succ n ih =>
    intro x1 τ h
    unfold L_X11_change_2 at h
    refine v_iload_n dX11_change_2 rfl rfl ?_
    refine v_sipush (v := 8530) dX11_change_3 (by decide) ?_
    refine v_icmp_ge (tgt := 27) dX11_change_6 (by decide) (fun c1 => ?_) (fun c1 => ?_)
    · have h := h.1 c1
      exact hK x1 _ h
    · have h := h.2 c1
      refine v_aload_n dX11_change_9 rfl rfl ?_
      refine u_getr fX11_13 dX11_change_10 sh_66 rfl (by decide) (rf_66_1 _) ?_
      refine v_iload_n dX11_change_13 rfl rfl ?_
      refine v_aload_n dX11_change_14 rfl rfl ?_
      refine u_getr fX11_7 dX11_change_15 sh_66 rfl (by decide) (rf_66_0 _) ?_
      refine v_iload_n dX11_change_18 rfl rfl ?_
      obtain ⟨j2, e_j2, l_j2, h⟩ := h
      refine u_iald dX11_change_19 sh_67 (by decide) (by decide) e_j2 l_j2 ?_
      obtain ⟨j3, e_j3, l_j3, h⟩ := h
      refine u_iast dX11_change_20 sh_68 (by decide) (by decide) e_j3 l_j3 (fun τ4 e_τ4 => ?_)
      have h := h τ4 e_τ4
      obtain ⟨v5, e_v5⟩ : ∃ z : Int32, z = x1 + (1 : Int32) := ⟨_, rfl⟩
      have h := h v5 e_v5
      refine v_iinc (v := v5) dX11_change_21 rfl (by rw [e_v5]; rfl) (by decide) rfl ?_
      refine v_ls (ls2 := [some (.ref 66), some (.int v5)]) rfl ?_
      refine v_goto (tgt := 2) dX11_change_24 (by decide) ?_
      exact ih v5 _ h
set_option maxRecDepth 100000 in
set_option maxHeartbeats 4000000 in
theorem v_X11_change {d : Nat}   (τ : kT) (post : kT → Prop) (h : T_X11_change   τ post) : U yX11_change cX11_change 2 none (d + 0) kE0 0 [some (.ref 66), none] [] τ (k_pv post) := by
  unfold T_X11_change at h
  refine v_iconst (v := 0) dX11_change_0 (by decide) ?_
  refine v_istore_n dX11_change_1 rfl (by decide) rfl ?_
  refine v_ls (ls2 := [some (.ref 66), some (.int (0 : Int32))]) rfl ?_
  obtain ⟨m6, h⟩ := h
  refine l_X11_change_2   (fun v7 τ8 h => ?_) m6 (0 : Int32) _ h
  refine v_aload_n dX11_change_27 rfl rfl ?_
  refine v_iconst (v := 1) dX11_change_28 (by decide) ?_
  refine u_puti pX11_63 (by first | exact Or.inl rfl | exact Or.inr rfl) dX11_change_29 sh_66 rfl (by decide) (by decide) (fun τ9 e_τ9 => ?_)
  have h := h τ9 e_τ9
  exact u_vret dX11_change_32 ⟨rfl, id⟩ h
def T_X11_well (a1 : Int32) (τ : kT) (post : Int32 → kT → Prop) : Prop := (∀ τ1 : kT, τ1 = q_si τ 66 4 (0 : Int32) → post a1 τ1)
set_option maxRecDepth 100000 in
set_option maxHeartbeats 4000000 in
theorem v_X11_well {d : Nat}  (a1 : Int32) (τ : kT) (post : Int32 → kT → Prop) (h : T_X11_well  a1 τ post) : U yX11_well cX11_well 2 (some .int) (d + 0) kE0 0 [some (.ref 66), some (.int a1)] [] τ (k_pi post) := by
  unfold T_X11_well at h
  refine v_aload_n dX11_well_0 rfl rfl ?_
  refine v_iconst (v := 0) dX11_well_1 (by decide) ?_
  refine u_puti pX11_57 ⟨_, rfl⟩ dX11_well_2 sh_66 rfl (by decide) (by decide) (fun τ1 e_τ1 => ?_)
  have h := h τ1 e_τ1
  refine v_iload_n dX11_well_5 rfl rfl ?_
  exact u_iret dX11_well_6 ⟨rfl, id⟩ h
def L_X11_newCylinder_63  (f1 : Int32) (f2 : Int32) (f3 : Int32) (f4 : Int32) (f5 : Int32) (K : Int32 → kT → Prop) (post : Int32 → kT → Prop) : Nat → Int32 → kT → Prop
  | 0, _, _ => False
  | n + 1, x6, τ => (((18 : Int32) ≤ x6 → K x6 τ) ∧ (¬ (18 : Int32) ≤ x6 → (∃ j13 : Nat, (((400 : Int32) + ((18 : Int32) * f5)) + x6) = nI j13 ∧ j13 < 8530 ∧ (∀ τ14 : kT, τ14 = q_si τ 67 j13 (0 : Int32) → (∀ v15 : Int32, v15 = x6 + (1 : Int32) → L_X11_newCylinder_63 f1 f2 f3 f4 f5 K post n v15 τ14)))))
def T_X11_newCylinder (a1 : Int32) (a2 : Int32) (a3 : Int32) (a4 : Int32) (τ : kT) (post : Int32 → kT → Prop) : Prop := (T_X11_change  τ (fun τ2 => (∀ v3 : Int32, v3 = (q_i τ2 67 8522) → (∃ j4 : Nat, ((0 : Int32) + v3) = nI j4 ∧ j4 < 8530 ∧ (∀ τ5 : kT, τ5 = q_si τ2 67 j4 a1 → (∃ j6 : Nat, ((100 : Int32) + v3) = nI j6 ∧ j6 < 8530 ∧ (∀ τ7 : kT, τ7 = q_si τ5 67 j6 a2 → (∃ j8 : Nat, ((200 : Int32) + v3) = nI j8 ∧ j8 < 8530 ∧ (∀ τ9 : kT, τ9 = q_si τ7 67 j8 a3 → (∃ j10 : Nat, ((300 : Int32) + v3) = nI j10 ∧ j10 < 8530 ∧ (∀ τ11 : kT, τ11 = q_si τ9 67 j10 a4 → (∃ m16 : Nat, L_X11_newCylinder_63  a1 a2 a3 a4 v3 (fun v17 τ18 => (∀ τ19 : kT, τ19 = q_si τ18 67 8522 (v3 + (1 : Int32)) → (T_X11_well v3 τ19 (fun r20 τ21 => post r20 τ21)))) post m16 (0 : Int32) τ11))))))))))))
set_option maxRecDepth 100000 in
set_option maxHeartbeats 4000000 in
theorem l_X11_newCylinder_63 {d : Nat}  (f1 : Int32) (f2 : Int32) (f3 : Int32) (f4 : Int32) (f5 : Int32) {K : Int32 → kT → Prop} {post : Int32 → kT → Prop} (hK : ∀ (x6 : Int32) (τ : kT), K x6 τ → U yX11_newCylinder cX11_newCylinder 7 (some .int) (d + 1) kE0 94 [some (.ref 66), some (.int f1), some (.int f2), some (.int f3), some (.int f4), some (.int f5), some (.int x6)] [] τ (k_pi post)) : ∀ (n : Nat) (x6 : Int32) (τ : kT), L_X11_newCylinder_63  f1 f2 f3 f4 f5 K post n x6 τ → U yX11_newCylinder cX11_newCylinder 7 (some .int) (d + 1) kE0 63 [some (.ref 66), some (.int f1), some (.int f2), some (.int f3), some (.int f4), some (.int f5), some (.int x6)] [] τ (k_pi post) := by
  intro n
  induction n with
  | zero => intro x6 τ h; exact h.elim
  | succ n ih =>
    intro x6 τ h
    unfold L_X11_newCylinder_63 at h
    refine v_iload dX11_newCylinder_63 rfl ?_
    refine v_bipush (v := 18) dX11_newCylinder_65 (by decide) ?_
    refine v_icmp_ge (tgt := 94) dX11_newCylinder_67 (by decide) (fun c12 => ?_) (fun c12 => ?_)
    · have h := h.1 c12
      exact hK x6 _ h
    · have h := h.2 c12
      refine v_aload_n dX11_newCylinder_70 rfl rfl ?_
      refine u_getr fX11_7 dX11_newCylinder_71 sh_66 rfl (by decide) (rf_66_0 _) ?_
      refine v_sipush (v := 400) dX11_newCylinder_74 (by decide) ?_
      refine v_bipush (v := 18) dX11_newCylinder_77 (by decide) ?_
      refine v_iload dX11_newCylinder_79 rfl ?_
      refine v_imul dX11_newCylinder_81 ?_
      refine v_iadd dX11_newCylinder_82 ?_
      refine v_iload dX11_newCylinder_83 rfl ?_
      refine v_iadd dX11_newCylinder_85 ?_
      refine v_iconst (v := 0) dX11_newCylinder_86 (by decide) ?_
      obtain ⟨j13, e_j13, l_j13, h⟩ := h
      refine u_iast dX11_newCylinder_87 sh_67 (by decide) (by decide) e_j13 l_j13 (fun τ14 e_τ14 => ?_)
      have h := h τ14 e_τ14
      obtain ⟨v15, e_v15⟩ : ∃ z : Int32, z = x6 + (1 : Int32) := ⟨_, rfl⟩
      have h := h v15 e_v15
      refine v_iinc (v := v15) dX11_newCylinder_88 rfl (by rw [e_v15]; rfl) (by decide) rfl ?_
      refine v_ls (ls2 := [some (.ref 66), some (.int f1), some (.int f2), some (.int f3), some (.int f4), some (.int f5), some (.int v15)]) rfl ?_
      refine v_goto (tgt := 63) dX11_newCylinder_91 (by decide) ?_
      exact ih v15 _ h
set_option maxRecDepth 100000 in
set_option maxHeartbeats 4000000 in
theorem v_X11_newCylinder {d : Nat}  (a1 : Int32) (a2 : Int32) (a3 : Int32) (a4 : Int32) (τ : kT) (post : Int32 → kT → Prop) (h : T_X11_newCylinder  a1 a2 a3 a4 τ post) : U yX11_newCylinder cX11_newCylinder 7 (some .int) (d + 1) kE0 0 [some (.ref 66), some (.int a1), some (.int a2), some (.int a3), some (.int a4), none, none] [] τ (k_pi post) := by
  unfold T_X11_newCylinder at h
  refine v_aload_n dX11_newCylinder_0 rfl rfl ?_
  refine u_callV [] mX11_change iX11_change lX11_71 dX11_newCylinder_1 sh_66 rfl rfl (by decide) ⟨rfl, rfl, id⟩ rfl rfl (Nat.le_of_ble_eq_true rfl) (Nat.le_of_ble_eq_true rfl) (v_X11_change  _ _ h) ?_
  rintro _ τ2 ⟨rfl, h⟩
  refine v_aload_n dX11_newCylinder_4 rfl rfl ?_
  refine u_getr fX11_7 dX11_newCylinder_5 sh_66 rfl (by decide) (rf_66_0 _) ?_
  refine v_sipush (v := 8522) dX11_newCylinder_8 (by decide) ?_
  refine u_iald dX11_newCylinder_11 sh_67 (by decide) (by decide) rfl (by decide) ?_
  refine v_topi (fun v3 e_v3 => ?_)
  have h := h v3 e_v3
  refine v_istore dX11_newCylinder_12 (by decide) rfl ?_
  refine v_ls (ls2 := [some (.ref 66), some (.int a1), some (.int a2), some (.int a3), some (.int a4), some (.int v3), none]) rfl ?_
  refine v_aload_n dX11_newCylinder_14 rfl rfl ?_
  refine u_getr fX11_7 dX11_newCylinder_15 sh_66 rfl (by decide) (rf_66_0 _) ?_
  refine v_iconst (v := 0) dX11_newCylinder_18 (by decide) ?_
  refine v_iload dX11_newCylinder_19 rfl ?_
  refine v_iadd dX11_newCylinder_21 ?_
  refine v_iload_n dX11_newCylinder_22 rfl rfl ?_
  obtain ⟨j4, e_j4, l_j4, h⟩ := h
  refine u_iast dX11_newCylinder_23 sh_67 (by decide) (by decide) e_j4 l_j4 (fun τ5 e_τ5 => ?_)
  have h := h τ5 e_τ5
  refine v_aload_n dX11_newCylinder_24 rfl rfl ?_
  refine u_getr fX11_7 dX11_newCylinder_25 sh_66 rfl (by decide) (rf_66_0 _) ?_
  refine v_bipush (v := 100) dX11_newCylinder_28 (by decide) ?_
  refine v_iload dX11_newCylinder_30 rfl ?_
  refine v_iadd dX11_newCylinder_32 ?_
  refine v_iload_n dX11_newCylinder_33 rfl rfl ?_
  obtain ⟨j6, e_j6, l_j6, h⟩ := h
  refine u_iast dX11_newCylinder_34 sh_67 (by decide) (by decide) e_j6 l_j6 (fun τ7 e_τ7 => ?_)
  have h := h τ7 e_τ7
  refine v_aload_n dX11_newCylinder_35 rfl rfl ?_
  refine u_getr fX11_7 dX11_newCylinder_36 sh_66 rfl (by decide) (rf_66_0 _) ?_
  refine v_sipush (v := 200) dX11_newCylinder_39 (by decide) ?_
  refine v_iload dX11_newCylinder_42 rfl ?_
  refine v_iadd dX11_newCylinder_44 ?_
  refine v_iload_n dX11_newCylinder_45 rfl rfl ?_
  obtain ⟨j8, e_j8, l_j8, h⟩ := h
  refine u_iast dX11_newCylinder_46 sh_67 (by decide) (by decide) e_j8 l_j8 (fun τ9 e_τ9 => ?_)
  have h := h τ9 e_τ9
  refine v_aload_n dX11_newCylinder_47 rfl rfl ?_
  refine u_getr fX11_7 dX11_newCylinder_48 sh_66 rfl (by decide) (rf_66_0 _) ?_
  refine v_sipush (v := 300) dX11_newCylinder_51 (by decide) ?_
  refine v_iload dX11_newCylinder_54 rfl ?_
  refine v_iadd dX11_newCylinder_56 ?_
  refine v_iload dX11_newCylinder_57 rfl ?_
  obtain ⟨j10, e_j10, l_j10, h⟩ := h
  refine u_iast dX11_newCylinder_59 sh_67 (by decide) (by decide) e_j10 l_j10 (fun τ11 e_τ11 => ?_)
  have h := h τ11 e_τ11
  refine v_iconst (v := 0) dX11_newCylinder_60 (by decide) ?_
  refine v_istore dX11_newCylinder_61 (by decide) rfl ?_
  refine v_ls (ls2 := [some (.ref 66), some (.int a1), some (.int a2), some (.int a3), some (.int a4), some (.int v3), some (.int (0 : Int32))]) rfl ?_
  obtain ⟨m16, h⟩ := h
  refine l_X11_newCylinder_63  a1 a2 a3 a4 v3 (fun v17 τ18 h => ?_) m16 (0 : Int32) _ h
  refine v_aload_n dX11_newCylinder_94 rfl rfl ?_
  refine u_getr fX11_7 dX11_newCylinder_95 sh_66 rfl (by decide) (rf_66_0 _) ?_
  refine v_sipush (v := 8522) dX11_newCylinder_98 (by decide) ?_
  refine v_iload dX11_newCylinder_101 rfl ?_
  refine v_iconst (v := 1) dX11_newCylinder_103 (by decide) ?_
  refine v_iadd dX11_newCylinder_104 ?_
  refine u_iast dX11_newCylinder_105 sh_67 (by decide) (by decide) rfl (by decide) (fun τ19 e_τ19 => ?_)
  have h := h τ19 e_τ19
  refine v_aload_n dX11_newCylinder_106 rfl rfl ?_
  refine v_iload dX11_newCylinder_107 rfl ?_
  refine u_callV [.int v3] mX11_well iX11_well lX11_74 dX11_newCylinder_109 sh_66 rfl rfl (by decide) ⟨rfl, rfl, id⟩ rfl rfl (Nat.le_of_ble_eq_true rfl) (Nat.le_of_ble_eq_true rfl) (v_X11_well v3 _ _ h) ?_
  rintro _ τ21 ⟨r20, rfl, h⟩
  exact u_iret dX11_newCylinder_112 ⟨rfl, id⟩ h
def T_X11_met (a1 : Int32) (τ : kT) (post : Int32 → kT → Prop) : Prop := (∀ τ1 : kT, τ1 = q_si τ 66 4 a1 → (∀ τ2 : kT, τ2 = q_si τ1 66 5 ((q_i τ1 66 5) + (1 : Int32)) → post ((-10 : Int32) - a1) τ2))
set_option maxRecDepth 100000 in
set_option maxHeartbeats 4000000 in
theorem v_X11_met {d : Nat}  (a1 : Int32) (τ : kT) (post : Int32 → kT → Prop) (h : T_X11_met  a1 τ post) : U yX11_met cX11_met 2 (some .int) (d + 0) kE0 0 [some (.ref 66), some (.int a1)] [] τ (k_pi post) := by
  unfold T_X11_met at h
  refine v_aload_n dX11_met_0 rfl rfl ?_
  refine v_iload_n dX11_met_1 rfl rfl ?_
  refine u_puti pX11_57 ⟨_, rfl⟩ dX11_met_2 sh_66 rfl (by decide) (by decide) (fun τ1 e_τ1 => ?_)
  have h := h τ1 e_τ1
  refine v_aload_n dX11_met_5 rfl rfl ?_
  refine v_dup dX11_met_6 rfl ?_
  refine u_geti fX11_60 dX11_met_7 sh_66 rfl (by decide) ?_
  refine v_iconst (v := 1) dX11_met_10 (by decide) ?_
  refine v_iadd dX11_met_11 ?_
  refine u_puti pX11_60 ⟨_, rfl⟩ dX11_met_12 sh_66 rfl (by decide) (by decide) (fun τ2 e_τ2 => ?_)
  have h := h τ2 e_τ2
  refine v_bipush (v := -10) dX11_met_15 (by decide) ?_
  refine v_iload_n dX11_met_17 rfl rfl ?_
  refine v_isub dX11_met_18 ?_
  exact u_iret dX11_met_19 ⟨rfl, id⟩ h
def T_X11_cylinder (a1 : Int32) (a2 : Int32) (τ : kT) (post : Int32 → kT → Prop) : Prop := (T_X11_in ((a1).toInt64) (0 : Int64) (3 : Int64) τ (fun r1 τ2 => ((r1 = 0 → post (-2 : Int32) τ2) ∧ (¬ r1 = 0 → ((a2 ≤ (18 : Int32) → ((¬ (q_i τ2 67 8522) = (100 : Int32) → ((0 ≤ a2 → (T_X11_newCylinder a1 a2 (-1 : Int32) (-1 : Int32) τ2 (fun r7 τ8 => post r7 τ8))) ∧ (¬ 0 ≤ a2 → (T_X11_met (5 : Int32) τ2 (fun r9 τ10 => post r9 τ10))))) ∧ ((q_i τ2 67 8522) = (100 : Int32) → post (-4 : Int32) τ2))) ∧ (¬ a2 ≤ (18 : Int32) → post (-2 : Int32) τ2))))))
set_option maxRecDepth 100000 in
set_option maxHeartbeats 4000000 in
theorem v_X11_cylinder {d : Nat}  (a1 : Int32) (a2 : Int32) (τ : kT) (post : Int32 → kT → Prop) (h : T_X11_cylinder  a1 a2 τ post) : U yX11_cylinder cX11_cylinder 3 (some .int) (d + 2) kE0 0 [some (.ref 66), some (.int a1), some (.int a2)] [] τ (k_pi post) := by
  unfold T_X11_cylinder at h
  refine v_iload_n dX11_cylinder_0 rfl rfl ?_
  refine v_i2l dX11_cylinder_1 ?_
  refine v_lconst (v := 0) dX11_cylinder_2 (by decide) ?_
  refine v_ldc2 kX11_78 dX11_cylinder_3 ?_
  refine u_callS [.long ((a1).toInt64), .long (0 : Int64), .long (3 : Int64)] mX11_in sX11_in lX11_67 dX11_cylinder_6 ⟨rfl, rfl, id⟩ rfl rfl (Nat.le_of_ble_eq_true rfl) (Nat.le_of_ble_eq_true rfl) (v_X11_in ((a1).toInt64) (0 : Int64) (3 : Int64) _ _ h) ?_
  rintro _ τ2 ⟨r1, rfl, h⟩
  refine v_if_eq (tgt := 18) dX11_cylinder_9 (by decide) (fun c3 => ?_) (fun c3 => ?_)
  · have h := h.1 c3
    refine v_bipush (v := -2) dX11_cylinder_18 (by decide) ?_
    exact u_iret dX11_cylinder_20 ⟨rfl, id⟩ h
  · have h := h.2 c3
    refine v_iload_n dX11_cylinder_12 rfl rfl ?_
    refine v_bipush (v := 18) dX11_cylinder_13 (by decide) ?_
    refine v_icmp_le (tgt := 21) dX11_cylinder_15 (by decide) (fun c4 => ?_) (fun c4 => ?_)
    · have h := h.1 c4
      refine v_aload_n dX11_cylinder_21 rfl rfl ?_
      refine u_getr fX11_7 dX11_cylinder_22 sh_66 rfl (by decide) (rf_66_0 _) ?_
      refine v_sipush (v := 8522) dX11_cylinder_25 (by decide) ?_
      refine u_iald dX11_cylinder_28 sh_67 (by decide) (by decide) rfl (by decide) ?_
      refine v_bipush (v := 100) dX11_cylinder_29 (by decide) ?_
      refine v_icmp_ne (tgt := 37) dX11_cylinder_31 (by decide) (fun c5 => ?_) (fun c5 => ?_)
      · have h := h.1 c5
        refine v_iload_n dX11_cylinder_37 rfl rfl ?_
        refine v_if_ge (tgt := 49) dX11_cylinder_38 (by decide) (fun c6 => ?_) (fun c6 => ?_)
        · have h := h.1 c6
          refine v_aload_n dX11_cylinder_49 rfl rfl ?_
          refine v_iload_n dX11_cylinder_50 rfl rfl ?_
          refine v_iload_n dX11_cylinder_51 rfl rfl ?_
          refine v_iconst (v := -1) dX11_cylinder_52 (by decide) ?_
          refine v_iconst (v := -1) dX11_cylinder_53 (by decide) ?_
          refine u_callV [.int a1, .int a2, .int (-1 : Int32), .int (-1 : Int32)] mX11_newCylinder iX11_newCylinder lX11_83 dX11_cylinder_54 sh_66 rfl rfl (by decide) ⟨rfl, rfl, id⟩ rfl rfl (Nat.le_of_ble_eq_true rfl) (Nat.le_of_ble_eq_true rfl) (v_X11_newCylinder a1 a2 (-1 : Int32) (-1 : Int32) _ _ h) ?_
          rintro _ τ8 ⟨r7, rfl, h⟩
          exact u_iret dX11_cylinder_57 ⟨rfl, id⟩ h
        · have h := h.2 c6
          refine v_aload_n dX11_cylinder_41 rfl rfl ?_
          refine v_iconst (v := 5) dX11_cylinder_42 (by decide) ?_
          refine u_callV [.int (5 : Int32)] mX11_met iX11_met lX11_80 dX11_cylinder_43 sh_66 rfl rfl (by decide) ⟨rfl, rfl, id⟩ rfl rfl (Nat.le_of_ble_eq_true rfl) (Nat.le_of_ble_eq_true rfl) (v_X11_met (5 : Int32) _ _ h) ?_
          rintro _ τ10 ⟨r9, rfl, h⟩
          refine v_goto (tgt := 57) dX11_cylinder_46 (by decide) ?_
          exact u_iret dX11_cylinder_57 ⟨rfl, id⟩ h
      · have h := h.2 c5
        refine v_bipush (v := -4) dX11_cylinder_34 (by decide) ?_
        exact u_iret dX11_cylinder_36 ⟨rfl, id⟩ h
    · have h := h.2 c4
      refine v_bipush (v := -2) dX11_cylinder_18 (by decide) ?_
      exact u_iret dX11_cylinder_20 ⟨rfl, id⟩ h
def T_X11_isCylinder (a1 : Int32) (τ : kT) (post : Int32 → kT → Prop) : Prop := (T_X11_in ((a1).toInt64) (0 : Int64) ((((q_i τ 67 8522) - (1 : Int32))).toInt64) τ (fun r1 τ2 => ((r1 = 0 ∨ r1 = 1) ∧ post r1 τ2)))
set_option maxRecDepth 100000 in
set_option maxHeartbeats 4000000 in
theorem v_X11_isCylinder {d : Nat}  (a1 : Int32) (τ : kT) (post : Int32 → kT → Prop) (h : T_X11_isCylinder  a1 τ post) : U yX11_isCylinder cX11_isCylinder 2 (some .boolean) (d + 1) kE0 0 [some (.ref 66), some (.int a1)] [] τ (k_pi post) := by
  unfold T_X11_isCylinder at h
  refine v_iload_n dX11_isCylinder_0 rfl rfl ?_
  refine v_i2l dX11_isCylinder_1 ?_
  refine v_lconst (v := 0) dX11_isCylinder_2 (by decide) ?_
  refine v_aload_n dX11_isCylinder_3 rfl rfl ?_
  refine u_getr fX11_7 dX11_isCylinder_4 sh_66 rfl (by decide) (rf_66_0 _) ?_
  refine v_sipush (v := 8522) dX11_isCylinder_7 (by decide) ?_
  refine u_iald dX11_isCylinder_10 sh_67 (by decide) (by decide) rfl (by decide) ?_
  refine v_iconst (v := 1) dX11_isCylinder_11 (by decide) ?_
  refine v_isub dX11_isCylinder_12 ?_
  refine v_i2l dX11_isCylinder_13 ?_
  refine u_callS [.long ((a1).toInt64), .long (0 : Int64), .long ((((q_i τ 67 8522) - (1 : Int32))).toInt64)] mX11_in sX11_in lX11_67 dX11_isCylinder_14 ⟨rfl, rfl, id⟩ rfl rfl (Nat.le_of_ble_eq_true rfl) (Nat.le_of_ble_eq_true rfl) (v_X11_in ((a1).toInt64) (0 : Int64) ((((q_i τ 67 8522) - (1 : Int32))).toInt64) _ _ h) ?_
  rintro _ τ2 ⟨r1, rfl, h⟩
  exact u_zret dX11_isCylinder_17 (k_nz h.1) ⟨rfl, id⟩ h.2
def T_X11_twin (a1 : Int32) (a2 : Int32) (τ : kT) (post : Int32 → kT → Prop) : Prop := ((a1 = (-1 : Int32) → ((a2 = (-1 : Int32) → ((¬ (q_i τ 67 8522) = (100 : Int32) → ((a1 = (-1 : Int32) → ((a2 = (-1 : Int32) → (T_X11_newCylinder (4 : Int32) (0 : Int32) a1 a2 τ (fun r6 τ7 => post r6 τ7))) ∧ (¬ a2 = (-1 : Int32) → (∃ j8 : Nat, ((0 : Int32) + a2) = nI j8 ∧ j8 < 8530 ∧ ((¬ (q_i τ 67 j8) = (4 : Int32) → (T_X11_newCylinder (4 : Int32) (0 : Int32) a1 a2 τ (fun r10 τ11 => post r10 τ11))) ∧ ((q_i τ 67 j8) = (4 : Int32) → (T_X11_met (3 : Int32) τ (fun r12 τ13 => post r12 τ13)))))))) ∧ (¬ a1 = (-1 : Int32) → (∃ j14 : Nat, ((0 : Int32) + a1) = nI j14 ∧ j14 < 8530 ∧ (((q_i τ 67 j14) = (4 : Int32) → (T_X11_met (3 : Int32) τ (fun r16 τ17 => post r16 τ17))) ∧ (¬ (q_i τ 67 j14) = (4 : Int32) → ((a2 = (-1 : Int32) → (T_X11_newCylinder (4 : Int32) (0 : Int32) a1 a2 τ (fun r19 τ20 => post r19 τ20))) ∧ (¬ a2 = (-1 : Int32) → (∃ j21 : Nat, ((0 : Int32) + a2) = nI j21 ∧ j21 < 8530 ∧ ((¬ (q_i τ 67 j21) = (4 : Int32) → (T_X11_newCylinder (4 : Int32) (0 : Int32) a1 a2 τ (fun r23 τ24 => post r23 τ24))) ∧ ((q_i τ 67 j21) = (4 : Int32) → (T_X11_met (3 : Int32) τ (fun r25 τ26 => post r25 τ26))))))))))))) ∧ ((q_i τ 67 8522) = (100 : Int32) → post (-4 : Int32) τ))) ∧ (¬ a2 = (-1 : Int32) → (T_X11_isCylinder a2 τ (fun r27 τ28 => ((¬ r27 = 0 → ((¬ (q_i τ28 67 8522) = (100 : Int32) → ((a1 = (-1 : Int32) → ((a2 = (-1 : Int32) → (T_X11_newCylinder (4 : Int32) (0 : Int32) a1 a2 τ28 (fun r33 τ34 => post r33 τ34))) ∧ (¬ a2 = (-1 : Int32) → (∃ j35 : Nat, ((0 : Int32) + a2) = nI j35 ∧ j35 < 8530 ∧ ((¬ (q_i τ28 67 j35) = (4 : Int32) → (T_X11_newCylinder (4 : Int32) (0 : Int32) a1 a2 τ28 (fun r37 τ38 => post r37 τ38))) ∧ ((q_i τ28 67 j35) = (4 : Int32) → (T_X11_met (3 : Int32) τ28 (fun r39 τ40 => post r39 τ40)))))))) ∧ (¬ a1 = (-1 : Int32) → (∃ j41 : Nat, ((0 : Int32) + a1) = nI j41 ∧ j41 < 8530 ∧ (((q_i τ28 67 j41) = (4 : Int32) → (T_X11_met (3 : Int32) τ28 (fun r43 τ44 => post r43 τ44))) ∧ (¬ (q_i τ28 67 j41) = (4 : Int32) → ((a2 = (-1 : Int32) → (T_X11_newCylinder (4 : Int32) (0 : Int32) a1 a2 τ28 (fun r46 τ47 => post r46 τ47))) ∧ (¬ a2 = (-1 : Int32) → (∃ j48 : Nat, ((0 : Int32) + a2) = nI j48 ∧ j48 < 8530 ∧ ((¬ (q_i τ28 67 j48) = (4 : Int32) → (T_X11_newCylinder (4 : Int32) (0 : Int32) a1 a2 τ28 (fun r50 τ51 => post r50 τ51))) ∧ ((q_i τ28 67 j48) = (4 : Int32) → (T_X11_met (3 : Int32) τ28 (fun r52 τ53 => post r52 τ53))))))))))))) ∧ ((q_i τ28 67 8522) = (100 : Int32) → post (-4 : Int32) τ28))) ∧ (r27 = 0 → post (-2 : Int32) τ28))))))) ∧ (¬ a1 = (-1 : Int32) → (T_X11_isCylinder a1 τ (fun r54 τ55 => ((r54 = 0 → post (-2 : Int32) τ55) ∧ (¬ r54 = 0 → ((a2 = (-1 : Int32) → ((¬ (q_i τ55 67 8522) = (100 : Int32) → ((a1 = (-1 : Int32) → ((a2 = (-1 : Int32) → (T_X11_newCylinder (4 : Int32) (0 : Int32) a1 a2 τ55 (fun r61 τ62 => post r61 τ62))) ∧ (¬ a2 = (-1 : Int32) → (∃ j63 : Nat, ((0 : Int32) + a2) = nI j63 ∧ j63 < 8530 ∧ ((¬ (q_i τ55 67 j63) = (4 : Int32) → (T_X11_newCylinder (4 : Int32) (0 : Int32) a1 a2 τ55 (fun r65 τ66 => post r65 τ66))) ∧ ((q_i τ55 67 j63) = (4 : Int32) → (T_X11_met (3 : Int32) τ55 (fun r67 τ68 => post r67 τ68)))))))) ∧ (¬ a1 = (-1 : Int32) → (∃ j69 : Nat, ((0 : Int32) + a1) = nI j69 ∧ j69 < 8530 ∧ (((q_i τ55 67 j69) = (4 : Int32) → (T_X11_met (3 : Int32) τ55 (fun r71 τ72 => post r71 τ72))) ∧ (¬ (q_i τ55 67 j69) = (4 : Int32) → ((a2 = (-1 : Int32) → (T_X11_newCylinder (4 : Int32) (0 : Int32) a1 a2 τ55 (fun r74 τ75 => post r74 τ75))) ∧ (¬ a2 = (-1 : Int32) → (∃ j76 : Nat, ((0 : Int32) + a2) = nI j76 ∧ j76 < 8530 ∧ ((¬ (q_i τ55 67 j76) = (4 : Int32) → (T_X11_newCylinder (4 : Int32) (0 : Int32) a1 a2 τ55 (fun r78 τ79 => post r78 τ79))) ∧ ((q_i τ55 67 j76) = (4 : Int32) → (T_X11_met (3 : Int32) τ55 (fun r80 τ81 => post r80 τ81))))))))))))) ∧ ((q_i τ55 67 8522) = (100 : Int32) → post (-4 : Int32) τ55))) ∧ (¬ a2 = (-1 : Int32) → (T_X11_isCylinder a2 τ55 (fun r82 τ83 => ((¬ r82 = 0 → ((¬ (q_i τ83 67 8522) = (100 : Int32) → ((a1 = (-1 : Int32) → ((a2 = (-1 : Int32) → (T_X11_newCylinder (4 : Int32) (0 : Int32) a1 a2 τ83 (fun r88 τ89 => post r88 τ89))) ∧ (¬ a2 = (-1 : Int32) → (∃ j90 : Nat, ((0 : Int32) + a2) = nI j90 ∧ j90 < 8530 ∧ ((¬ (q_i τ83 67 j90) = (4 : Int32) → (T_X11_newCylinder (4 : Int32) (0 : Int32) a1 a2 τ83 (fun r92 τ93 => post r92 τ93))) ∧ ((q_i τ83 67 j90) = (4 : Int32) → (T_X11_met (3 : Int32) τ83 (fun r94 τ95 => post r94 τ95)))))))) ∧ (¬ a1 = (-1 : Int32) → (∃ j96 : Nat, ((0 : Int32) + a1) = nI j96 ∧ j96 < 8530 ∧ (((q_i τ83 67 j96) = (4 : Int32) → (T_X11_met (3 : Int32) τ83 (fun r98 τ99 => post r98 τ99))) ∧ (¬ (q_i τ83 67 j96) = (4 : Int32) → ((a2 = (-1 : Int32) → (T_X11_newCylinder (4 : Int32) (0 : Int32) a1 a2 τ83 (fun r101 τ102 => post r101 τ102))) ∧ (¬ a2 = (-1 : Int32) → (∃ j103 : Nat, ((0 : Int32) + a2) = nI j103 ∧ j103 < 8530 ∧ ((¬ (q_i τ83 67 j103) = (4 : Int32) → (T_X11_newCylinder (4 : Int32) (0 : Int32) a1 a2 τ83 (fun r105 τ106 => post r105 τ106))) ∧ ((q_i τ83 67 j103) = (4 : Int32) → (T_X11_met (3 : Int32) τ83 (fun r107 τ108 => post r107 τ108))))))))))))) ∧ ((q_i τ83 67 8522) = (100 : Int32) → post (-4 : Int32) τ83))) ∧ (r82 = 0 → post (-2 : Int32) τ83))))))))))))
set_option maxRecDepth 100000 in
set_option maxHeartbeats 4000000 in
theorem v_X11_twin {d : Nat}  (a1 : Int32) (a2 : Int32) (τ : kT) (post : Int32 → kT → Prop) (h : T_X11_twin  a1 a2 τ post) : U yX11_twin cX11_twin 3 (some .int) (d + 2) kE0 0 [some (.ref 66), some (.int a1), some (.int a2)] [] τ (k_pi post) := by
  unfold T_X11_twin at h
  refine v_iload_n dX11_twin_0 rfl rfl ?_
  refine v_iconst (v := -1) dX11_twin_1 (by decide) ?_
  refine v_icmp_eq (tgt := 13) dX11_twin_2 (by decide) (fun c1 => ?_) (fun c1 => ?_)
  · have h := h.1 c1
    refine v_iload_n dX11_twin_13 rfl rfl ?_
    refine v_iconst (v := -1) dX11_twin_14 (by decide) ?_
    refine v_icmp_eq (tgt := 29) dX11_twin_15 (by decide) (fun c2 => ?_) (fun c2 => ?_)
    · have h := h.1 c2
      refine v_aload_n dX11_twin_29 rfl rfl ?_
      refine u_getr fX11_7 dX11_twin_30 sh_66 rfl (by decide) (rf_66_0 _) ?_
      refine v_sipush (v := 8522) dX11_twin_33 (by decide) ?_
      refine u_iald dX11_twin_36 sh_67 (by decide) (by decide) rfl (by decide) ?_
      refine v_bipush (v := 100) dX11_twin_37 (by decide) ?_
      refine v_icmp_ne (tgt := 45) dX11_twin_39 (by decide) (fun c3 => ?_) (fun c3 => ?_)
      · have h := h.1 c3
        refine v_iload_n dX11_twin_45 rfl rfl ?_
        refine v_iconst (v := -1) dX11_twin_46 (by decide) ?_
        refine v_icmp_eq (tgt := 62) dX11_twin_47 (by decide) (fun c4 => ?_) (fun c4 => ?_)
        · have h := h.1 c4
          refine v_iload_n dX11_twin_62 rfl rfl ?_
          refine v_iconst (v := -1) dX11_twin_63 (by decide) ?_
          refine v_icmp_eq (tgt := 85) dX11_twin_64 (by decide) (fun c5 => ?_) (fun c5 => ?_)
          · have h := h.1 c5
            refine v_aload_n dX11_twin_85 rfl rfl ?_
            refine v_iconst (v := 4) dX11_twin_86 (by decide) ?_
            refine v_iconst (v := 0) dX11_twin_87 (by decide) ?_
            refine v_iload_n dX11_twin_88 rfl rfl ?_
            refine v_iload_n dX11_twin_89 rfl rfl ?_
            refine u_callV [.int (4 : Int32), .int (0 : Int32), .int a1, .int a2] mX11_newCylinder iX11_newCylinder lX11_83 dX11_twin_90 sh_66 rfl rfl (by decide) ⟨rfl, rfl, id⟩ rfl rfl (Nat.le_of_ble_eq_true rfl) (Nat.le_of_ble_eq_true rfl) (v_X11_newCylinder (4 : Int32) (0 : Int32) a1 a2 _ _ h) ?_
            rintro _ τ7 ⟨r6, rfl, h⟩
            exact u_iret dX11_twin_93 ⟨rfl, id⟩ h
          · have h := h.2 c5
            refine v_aload_n dX11_twin_67 rfl rfl ?_
            refine u_getr fX11_7 dX11_twin_68 sh_66 rfl (by decide) (rf_66_0 _) ?_
            refine v_iconst (v := 0) dX11_twin_71 (by decide) ?_
            refine v_iload_n dX11_twin_72 rfl rfl ?_
            refine v_iadd dX11_twin_73 ?_
            obtain ⟨j8, e_j8, l_j8, h⟩ := h
            refine u_iald dX11_twin_74 sh_67 (by decide) (by decide) e_j8 l_j8 ?_
            refine v_iconst (v := 4) dX11_twin_75 (by decide) ?_
            refine v_icmp_ne (tgt := 85) dX11_twin_76 (by decide) (fun c9 => ?_) (fun c9 => ?_)
            · have h := h.1 c9
              refine v_aload_n dX11_twin_85 rfl rfl ?_
              refine v_iconst (v := 4) dX11_twin_86 (by decide) ?_
              refine v_iconst (v := 0) dX11_twin_87 (by decide) ?_
              refine v_iload_n dX11_twin_88 rfl rfl ?_
              refine v_iload_n dX11_twin_89 rfl rfl ?_
              refine u_callV [.int (4 : Int32), .int (0 : Int32), .int a1, .int a2] mX11_newCylinder iX11_newCylinder lX11_83 dX11_twin_90 sh_66 rfl rfl (by decide) ⟨rfl, rfl, id⟩ rfl rfl (Nat.le_of_ble_eq_true rfl) (Nat.le_of_ble_eq_true rfl) (v_X11_newCylinder (4 : Int32) (0 : Int32) a1 a2 _ _ h) ?_
              rintro _ τ11 ⟨r10, rfl, h⟩
              exact u_iret dX11_twin_93 ⟨rfl, id⟩ h
            · have h := h.2 c9
              refine v_aload_n dX11_twin_79 rfl rfl ?_
              refine v_iconst (v := 3) dX11_twin_80 (by decide) ?_
              refine u_callV [.int (3 : Int32)] mX11_met iX11_met lX11_80 dX11_twin_81 sh_66 rfl rfl (by decide) ⟨rfl, rfl, id⟩ rfl rfl (Nat.le_of_ble_eq_true rfl) (Nat.le_of_ble_eq_true rfl) (v_X11_met (3 : Int32) _ _ h) ?_
              rintro _ τ13 ⟨r12, rfl, h⟩
              exact u_iret dX11_twin_84 ⟨rfl, id⟩ h
        · have h := h.2 c4
          refine v_aload_n dX11_twin_50 rfl rfl ?_
          refine u_getr fX11_7 dX11_twin_51 sh_66 rfl (by decide) (rf_66_0 _) ?_
          refine v_iconst (v := 0) dX11_twin_54 (by decide) ?_
          refine v_iload_n dX11_twin_55 rfl rfl ?_
          refine v_iadd dX11_twin_56 ?_
          obtain ⟨j14, e_j14, l_j14, h⟩ := h
          refine u_iald dX11_twin_57 sh_67 (by decide) (by decide) e_j14 l_j14 ?_
          refine v_iconst (v := 4) dX11_twin_58 (by decide) ?_
          refine v_icmp_eq (tgt := 79) dX11_twin_59 (by decide) (fun c15 => ?_) (fun c15 => ?_)
          · have h := h.1 c15
            refine v_aload_n dX11_twin_79 rfl rfl ?_
            refine v_iconst (v := 3) dX11_twin_80 (by decide) ?_
            refine u_callV [.int (3 : Int32)] mX11_met iX11_met lX11_80 dX11_twin_81 sh_66 rfl rfl (by decide) ⟨rfl, rfl, id⟩ rfl rfl (Nat.le_of_ble_eq_true rfl) (Nat.le_of_ble_eq_true rfl) (v_X11_met (3 : Int32) _ _ h) ?_
            rintro _ τ17 ⟨r16, rfl, h⟩
            exact u_iret dX11_twin_84 ⟨rfl, id⟩ h
          · have h := h.2 c15
            refine v_iload_n dX11_twin_62 rfl rfl ?_
            refine v_iconst (v := -1) dX11_twin_63 (by decide) ?_
            refine v_icmp_eq (tgt := 85) dX11_twin_64 (by decide) (fun c18 => ?_) (fun c18 => ?_)
            · have h := h.1 c18
              refine v_aload_n dX11_twin_85 rfl rfl ?_
              refine v_iconst (v := 4) dX11_twin_86 (by decide) ?_
              refine v_iconst (v := 0) dX11_twin_87 (by decide) ?_
              refine v_iload_n dX11_twin_88 rfl rfl ?_
              refine v_iload_n dX11_twin_89 rfl rfl ?_
              refine u_callV [.int (4 : Int32), .int (0 : Int32), .int a1, .int a2] mX11_newCylinder iX11_newCylinder lX11_83 dX11_twin_90 sh_66 rfl rfl (by decide) ⟨rfl, rfl, id⟩ rfl rfl (Nat.le_of_ble_eq_true rfl) (Nat.le_of_ble_eq_true rfl) (v_X11_newCylinder (4 : Int32) (0 : Int32) a1 a2 _ _ h) ?_
              rintro _ τ20 ⟨r19, rfl, h⟩
              exact u_iret dX11_twin_93 ⟨rfl, id⟩ h
            · have h := h.2 c18
              refine v_aload_n dX11_twin_67 rfl rfl ?_
              refine u_getr fX11_7 dX11_twin_68 sh_66 rfl (by decide) (rf_66_0 _) ?_
              refine v_iconst (v := 0) dX11_twin_71 (by decide) ?_
              refine v_iload_n dX11_twin_72 rfl rfl ?_
              refine v_iadd dX11_twin_73 ?_
              obtain ⟨j21, e_j21, l_j21, h⟩ := h
              refine u_iald dX11_twin_74 sh_67 (by decide) (by decide) e_j21 l_j21 ?_
              refine v_iconst (v := 4) dX11_twin_75 (by decide) ?_
              refine v_icmp_ne (tgt := 85) dX11_twin_76 (by decide) (fun c22 => ?_) (fun c22 => ?_)
              · have h := h.1 c22
                refine v_aload_n dX11_twin_85 rfl rfl ?_
                refine v_iconst (v := 4) dX11_twin_86 (by decide) ?_
                refine v_iconst (v := 0) dX11_twin_87 (by decide) ?_
                refine v_iload_n dX11_twin_88 rfl rfl ?_
                refine v_iload_n dX11_twin_89 rfl rfl ?_
                refine u_callV [.int (4 : Int32), .int (0 : Int32), .int a1, .int a2] mX11_newCylinder iX11_newCylinder lX11_83 dX11_twin_90 sh_66 rfl rfl (by decide) ⟨rfl, rfl, id⟩ rfl rfl (Nat.le_of_ble_eq_true rfl) (Nat.le_of_ble_eq_true rfl) (v_X11_newCylinder (4 : Int32) (0 : Int32) a1 a2 _ _ h) ?_
                rintro _ τ24 ⟨r23, rfl, h⟩
                exact u_iret dX11_twin_93 ⟨rfl, id⟩ h
              · have h := h.2 c22
                refine v_aload_n dX11_twin_79 rfl rfl ?_
                refine v_iconst (v := 3) dX11_twin_80 (by decide) ?_
                refine u_callV [.int (3 : Int32)] mX11_met iX11_met lX11_80 dX11_twin_81 sh_66 rfl rfl (by decide) ⟨rfl, rfl, id⟩ rfl rfl (Nat.le_of_ble_eq_true rfl) (Nat.le_of_ble_eq_true rfl) (v_X11_met (3 : Int32) _ _ h) ?_
                rintro _ τ26 ⟨r25, rfl, h⟩
                exact u_iret dX11_twin_84 ⟨rfl, id⟩ h
      · have h := h.2 c3
        refine v_bipush (v := -4) dX11_twin_42 (by decide) ?_
        exact u_iret dX11_twin_44 ⟨rfl, id⟩ h
    · have h := h.2 c2
      refine v_aload_n dX11_twin_18 rfl rfl ?_
      refine v_iload_n dX11_twin_19 rfl rfl ?_
      refine u_callV [.int a2] mX11_isCylinder iX11_isCylinder lX11_87 dX11_twin_20 sh_66 rfl rfl (by decide) ⟨rfl, rfl, id⟩ rfl rfl (Nat.le_of_ble_eq_true rfl) (Nat.le_of_ble_eq_true rfl) (v_X11_isCylinder a2 _ _ h) ?_
      rintro _ τ28 ⟨r27, rfl, h⟩
      refine v_if_ne (tgt := 29) dX11_twin_23 (by decide) (fun c29 => ?_) (fun c29 => ?_)
      · have h := h.1 c29
        refine v_aload_n dX11_twin_29 rfl rfl ?_
        refine u_getr fX11_7 dX11_twin_30 sh_66 rfl (by decide) (rf_66_0 _) ?_
        refine v_sipush (v := 8522) dX11_twin_33 (by decide) ?_
        refine u_iald dX11_twin_36 sh_67 (by decide) (by decide) rfl (by decide) ?_
        refine v_bipush (v := 100) dX11_twin_37 (by decide) ?_
        refine v_icmp_ne (tgt := 45) dX11_twin_39 (by decide) (fun c30 => ?_) (fun c30 => ?_)
        · have h := h.1 c30
          refine v_iload_n dX11_twin_45 rfl rfl ?_
          refine v_iconst (v := -1) dX11_twin_46 (by decide) ?_
          refine v_icmp_eq (tgt := 62) dX11_twin_47 (by decide) (fun c31 => ?_) (fun c31 => ?_)
          · have h := h.1 c31
            refine v_iload_n dX11_twin_62 rfl rfl ?_
            refine v_iconst (v := -1) dX11_twin_63 (by decide) ?_
            refine v_icmp_eq (tgt := 85) dX11_twin_64 (by decide) (fun c32 => ?_) (fun c32 => ?_)
            · have h := h.1 c32
              refine v_aload_n dX11_twin_85 rfl rfl ?_
              refine v_iconst (v := 4) dX11_twin_86 (by decide) ?_
              refine v_iconst (v := 0) dX11_twin_87 (by decide) ?_
              refine v_iload_n dX11_twin_88 rfl rfl ?_
              refine v_iload_n dX11_twin_89 rfl rfl ?_
              refine u_callV [.int (4 : Int32), .int (0 : Int32), .int a1, .int a2] mX11_newCylinder iX11_newCylinder lX11_83 dX11_twin_90 sh_66 rfl rfl (by decide) ⟨rfl, rfl, id⟩ rfl rfl (Nat.le_of_ble_eq_true rfl) (Nat.le_of_ble_eq_true rfl) (v_X11_newCylinder (4 : Int32) (0 : Int32) a1 a2 _ _ h) ?_
              rintro _ τ34 ⟨r33, rfl, h⟩
              exact u_iret dX11_twin_93 ⟨rfl, id⟩ h
            · have h := h.2 c32
              refine v_aload_n dX11_twin_67 rfl rfl ?_
              refine u_getr fX11_7 dX11_twin_68 sh_66 rfl (by decide) (rf_66_0 _) ?_
              refine v_iconst (v := 0) dX11_twin_71 (by decide) ?_
              refine v_iload_n dX11_twin_72 rfl rfl ?_
              refine v_iadd dX11_twin_73 ?_
              obtain ⟨j35, e_j35, l_j35, h⟩ := h
              refine u_iald dX11_twin_74 sh_67 (by decide) (by decide) e_j35 l_j35 ?_
              refine v_iconst (v := 4) dX11_twin_75 (by decide) ?_
              refine v_icmp_ne (tgt := 85) dX11_twin_76 (by decide) (fun c36 => ?_) (fun c36 => ?_)
              · have h := h.1 c36
                refine v_aload_n dX11_twin_85 rfl rfl ?_
                refine v_iconst (v := 4) dX11_twin_86 (by decide) ?_
                refine v_iconst (v := 0) dX11_twin_87 (by decide) ?_
                refine v_iload_n dX11_twin_88 rfl rfl ?_
                refine v_iload_n dX11_twin_89 rfl rfl ?_
                refine u_callV [.int (4 : Int32), .int (0 : Int32), .int a1, .int a2] mX11_newCylinder iX11_newCylinder lX11_83 dX11_twin_90 sh_66 rfl rfl (by decide) ⟨rfl, rfl, id⟩ rfl rfl (Nat.le_of_ble_eq_true rfl) (Nat.le_of_ble_eq_true rfl) (v_X11_newCylinder (4 : Int32) (0 : Int32) a1 a2 _ _ h) ?_
                rintro _ τ38 ⟨r37, rfl, h⟩
                exact u_iret dX11_twin_93 ⟨rfl, id⟩ h
              · have h := h.2 c36
                refine v_aload_n dX11_twin_79 rfl rfl ?_
                refine v_iconst (v := 3) dX11_twin_80 (by decide) ?_
                refine u_callV [.int (3 : Int32)] mX11_met iX11_met lX11_80 dX11_twin_81 sh_66 rfl rfl (by decide) ⟨rfl, rfl, id⟩ rfl rfl (Nat.le_of_ble_eq_true rfl) (Nat.le_of_ble_eq_true rfl) (v_X11_met (3 : Int32) _ _ h) ?_
                rintro _ τ40 ⟨r39, rfl, h⟩
                exact u_iret dX11_twin_84 ⟨rfl, id⟩ h
          · have h := h.2 c31
            refine v_aload_n dX11_twin_50 rfl rfl ?_
            refine u_getr fX11_7 dX11_twin_51 sh_66 rfl (by decide) (rf_66_0 _) ?_
            refine v_iconst (v := 0) dX11_twin_54 (by decide) ?_
            refine v_iload_n dX11_twin_55 rfl rfl ?_
            refine v_iadd dX11_twin_56 ?_
            obtain ⟨j41, e_j41, l_j41, h⟩ := h
            refine u_iald dX11_twin_57 sh_67 (by decide) (by decide) e_j41 l_j41 ?_
            refine v_iconst (v := 4) dX11_twin_58 (by decide) ?_
            refine v_icmp_eq (tgt := 79) dX11_twin_59 (by decide) (fun c42 => ?_) (fun c42 => ?_)
            · have h := h.1 c42
              refine v_aload_n dX11_twin_79 rfl rfl ?_
              refine v_iconst (v := 3) dX11_twin_80 (by decide) ?_
              refine u_callV [.int (3 : Int32)] mX11_met iX11_met lX11_80 dX11_twin_81 sh_66 rfl rfl (by decide) ⟨rfl, rfl, id⟩ rfl rfl (Nat.le_of_ble_eq_true rfl) (Nat.le_of_ble_eq_true rfl) (v_X11_met (3 : Int32) _ _ h) ?_
              rintro _ τ44 ⟨r43, rfl, h⟩
              exact u_iret dX11_twin_84 ⟨rfl, id⟩ h
            · have h := h.2 c42
              refine v_iload_n dX11_twin_62 rfl rfl ?_
              refine v_iconst (v := -1) dX11_twin_63 (by decide) ?_
              refine v_icmp_eq (tgt := 85) dX11_twin_64 (by decide) (fun c45 => ?_) (fun c45 => ?_)
              · have h := h.1 c45
                refine v_aload_n dX11_twin_85 rfl rfl ?_
                refine v_iconst (v := 4) dX11_twin_86 (by decide) ?_
                refine v_iconst (v := 0) dX11_twin_87 (by decide) ?_
                refine v_iload_n dX11_twin_88 rfl rfl ?_
                refine v_iload_n dX11_twin_89 rfl rfl ?_
                refine u_callV [.int (4 : Int32), .int (0 : Int32), .int a1, .int a2] mX11_newCylinder iX11_newCylinder lX11_83 dX11_twin_90 sh_66 rfl rfl (by decide) ⟨rfl, rfl, id⟩ rfl rfl (Nat.le_of_ble_eq_true rfl) (Nat.le_of_ble_eq_true rfl) (v_X11_newCylinder (4 : Int32) (0 : Int32) a1 a2 _ _ h) ?_
                rintro _ τ47 ⟨r46, rfl, h⟩
                exact u_iret dX11_twin_93 ⟨rfl, id⟩ h
              · have h := h.2 c45
                refine v_aload_n dX11_twin_67 rfl rfl ?_
                refine u_getr fX11_7 dX11_twin_68 sh_66 rfl (by decide) (rf_66_0 _) ?_
                refine v_iconst (v := 0) dX11_twin_71 (by decide) ?_
                refine v_iload_n dX11_twin_72 rfl rfl ?_
                refine v_iadd dX11_twin_73 ?_
                obtain ⟨j48, e_j48, l_j48, h⟩ := h
                refine u_iald dX11_twin_74 sh_67 (by decide) (by decide) e_j48 l_j48 ?_
                refine v_iconst (v := 4) dX11_twin_75 (by decide) ?_
                refine v_icmp_ne (tgt := 85) dX11_twin_76 (by decide) (fun c49 => ?_) (fun c49 => ?_)
                · have h := h.1 c49
                  refine v_aload_n dX11_twin_85 rfl rfl ?_
                  refine v_iconst (v := 4) dX11_twin_86 (by decide) ?_
                  refine v_iconst (v := 0) dX11_twin_87 (by decide) ?_
                  refine v_iload_n dX11_twin_88 rfl rfl ?_
                  refine v_iload_n dX11_twin_89 rfl rfl ?_
                  refine u_callV [.int (4 : Int32), .int (0 : Int32), .int a1, .int a2] mX11_newCylinder iX11_newCylinder lX11_83 dX11_twin_90 sh_66 rfl rfl (by decide) ⟨rfl, rfl, id⟩ rfl rfl (Nat.le_of_ble_eq_true rfl) (Nat.le_of_ble_eq_true rfl) (v_X11_newCylinder (4 : Int32) (0 : Int32) a1 a2 _ _ h) ?_
                  rintro _ τ51 ⟨r50, rfl, h⟩
                  exact u_iret dX11_twin_93 ⟨rfl, id⟩ h
                · have h := h.2 c49
                  refine v_aload_n dX11_twin_79 rfl rfl ?_
                  refine v_iconst (v := 3) dX11_twin_80 (by decide) ?_
                  refine u_callV [.int (3 : Int32)] mX11_met iX11_met lX11_80 dX11_twin_81 sh_66 rfl rfl (by decide) ⟨rfl, rfl, id⟩ rfl rfl (Nat.le_of_ble_eq_true rfl) (Nat.le_of_ble_eq_true rfl) (v_X11_met (3 : Int32) _ _ h) ?_
                  rintro _ τ53 ⟨r52, rfl, h⟩
                  exact u_iret dX11_twin_84 ⟨rfl, id⟩ h
        · have h := h.2 c30
          refine v_bipush (v := -4) dX11_twin_42 (by decide) ?_
          exact u_iret dX11_twin_44 ⟨rfl, id⟩ h
      · have h := h.2 c29
        refine v_bipush (v := -2) dX11_twin_26 (by decide) ?_
        exact u_iret dX11_twin_28 ⟨rfl, id⟩ h
  · have h := h.2 c1
    refine v_aload_n dX11_twin_5 rfl rfl ?_
    refine v_iload_n dX11_twin_6 rfl rfl ?_
    refine u_callV [.int a1] mX11_isCylinder iX11_isCylinder lX11_87 dX11_twin_7 sh_66 rfl rfl (by decide) ⟨rfl, rfl, id⟩ rfl rfl (Nat.le_of_ble_eq_true rfl) (Nat.le_of_ble_eq_true rfl) (v_X11_isCylinder a1 _ _ h) ?_
    rintro _ τ55 ⟨r54, rfl, h⟩
    refine v_if_eq (tgt := 26) dX11_twin_10 (by decide) (fun c56 => ?_) (fun c56 => ?_)
    · have h := h.1 c56
      refine v_bipush (v := -2) dX11_twin_26 (by decide) ?_
      exact u_iret dX11_twin_28 ⟨rfl, id⟩ h
    · have h := h.2 c56
      refine v_iload_n dX11_twin_13 rfl rfl ?_
      refine v_iconst (v := -1) dX11_twin_14 (by decide) ?_
      refine v_icmp_eq (tgt := 29) dX11_twin_15 (by decide) (fun c57 => ?_) (fun c57 => ?_)
      · have h := h.1 c57
        refine v_aload_n dX11_twin_29 rfl rfl ?_
        refine u_getr fX11_7 dX11_twin_30 sh_66 rfl (by decide) (rf_66_0 _) ?_
        refine v_sipush (v := 8522) dX11_twin_33 (by decide) ?_
        refine u_iald dX11_twin_36 sh_67 (by decide) (by decide) rfl (by decide) ?_
        refine v_bipush (v := 100) dX11_twin_37 (by decide) ?_
        refine v_icmp_ne (tgt := 45) dX11_twin_39 (by decide) (fun c58 => ?_) (fun c58 => ?_)
        · have h := h.1 c58
          refine v_iload_n dX11_twin_45 rfl rfl ?_
          refine v_iconst (v := -1) dX11_twin_46 (by decide) ?_
          refine v_icmp_eq (tgt := 62) dX11_twin_47 (by decide) (fun c59 => ?_) (fun c59 => ?_)
          · have h := h.1 c59
            refine v_iload_n dX11_twin_62 rfl rfl ?_
            refine v_iconst (v := -1) dX11_twin_63 (by decide) ?_
            refine v_icmp_eq (tgt := 85) dX11_twin_64 (by decide) (fun c60 => ?_) (fun c60 => ?_)
            · have h := h.1 c60
              refine v_aload_n dX11_twin_85 rfl rfl ?_
              refine v_iconst (v := 4) dX11_twin_86 (by decide) ?_
              refine v_iconst (v := 0) dX11_twin_87 (by decide) ?_
              refine v_iload_n dX11_twin_88 rfl rfl ?_
              refine v_iload_n dX11_twin_89 rfl rfl ?_
              refine u_callV [.int (4 : Int32), .int (0 : Int32), .int a1, .int a2] mX11_newCylinder iX11_newCylinder lX11_83 dX11_twin_90 sh_66 rfl rfl (by decide) ⟨rfl, rfl, id⟩ rfl rfl (Nat.le_of_ble_eq_true rfl) (Nat.le_of_ble_eq_true rfl) (v_X11_newCylinder (4 : Int32) (0 : Int32) a1 a2 _ _ h) ?_
              rintro _ τ62 ⟨r61, rfl, h⟩
              exact u_iret dX11_twin_93 ⟨rfl, id⟩ h
            · have h := h.2 c60
              refine v_aload_n dX11_twin_67 rfl rfl ?_
              refine u_getr fX11_7 dX11_twin_68 sh_66 rfl (by decide) (rf_66_0 _) ?_
              refine v_iconst (v := 0) dX11_twin_71 (by decide) ?_
              refine v_iload_n dX11_twin_72 rfl rfl ?_
              refine v_iadd dX11_twin_73 ?_
              obtain ⟨j63, e_j63, l_j63, h⟩ := h
              refine u_iald dX11_twin_74 sh_67 (by decide) (by decide) e_j63 l_j63 ?_
              refine v_iconst (v := 4) dX11_twin_75 (by decide) ?_
              refine v_icmp_ne (tgt := 85) dX11_twin_76 (by decide) (fun c64 => ?_) (fun c64 => ?_)
              · have h := h.1 c64
                refine v_aload_n dX11_twin_85 rfl rfl ?_
                refine v_iconst (v := 4) dX11_twin_86 (by decide) ?_
                refine v_iconst (v := 0) dX11_twin_87 (by decide) ?_
                refine v_iload_n dX11_twin_88 rfl rfl ?_
                refine v_iload_n dX11_twin_89 rfl rfl ?_
                refine u_callV [.int (4 : Int32), .int (0 : Int32), .int a1, .int a2] mX11_newCylinder iX11_newCylinder lX11_83 dX11_twin_90 sh_66 rfl rfl (by decide) ⟨rfl, rfl, id⟩ rfl rfl (Nat.le_of_ble_eq_true rfl) (Nat.le_of_ble_eq_true rfl) (v_X11_newCylinder (4 : Int32) (0 : Int32) a1 a2 _ _ h) ?_
                rintro _ τ66 ⟨r65, rfl, h⟩
                exact u_iret dX11_twin_93 ⟨rfl, id⟩ h
              · have h := h.2 c64
                refine v_aload_n dX11_twin_79 rfl rfl ?_
                refine v_iconst (v := 3) dX11_twin_80 (by decide) ?_
                refine u_callV [.int (3 : Int32)] mX11_met iX11_met lX11_80 dX11_twin_81 sh_66 rfl rfl (by decide) ⟨rfl, rfl, id⟩ rfl rfl (Nat.le_of_ble_eq_true rfl) (Nat.le_of_ble_eq_true rfl) (v_X11_met (3 : Int32) _ _ h) ?_
                rintro _ τ68 ⟨r67, rfl, h⟩
                exact u_iret dX11_twin_84 ⟨rfl, id⟩ h
          · have h := h.2 c59
            refine v_aload_n dX11_twin_50 rfl rfl ?_
            refine u_getr fX11_7 dX11_twin_51 sh_66 rfl (by decide) (rf_66_0 _) ?_
            refine v_iconst (v := 0) dX11_twin_54 (by decide) ?_
            refine v_iload_n dX11_twin_55 rfl rfl ?_
            refine v_iadd dX11_twin_56 ?_
            obtain ⟨j69, e_j69, l_j69, h⟩ := h
            refine u_iald dX11_twin_57 sh_67 (by decide) (by decide) e_j69 l_j69 ?_
            refine v_iconst (v := 4) dX11_twin_58 (by decide) ?_
            refine v_icmp_eq (tgt := 79) dX11_twin_59 (by decide) (fun c70 => ?_) (fun c70 => ?_)
            · have h := h.1 c70
              refine v_aload_n dX11_twin_79 rfl rfl ?_
              refine v_iconst (v := 3) dX11_twin_80 (by decide) ?_
              refine u_callV [.int (3 : Int32)] mX11_met iX11_met lX11_80 dX11_twin_81 sh_66 rfl rfl (by decide) ⟨rfl, rfl, id⟩ rfl rfl (Nat.le_of_ble_eq_true rfl) (Nat.le_of_ble_eq_true rfl) (v_X11_met (3 : Int32) _ _ h) ?_
              rintro _ τ72 ⟨r71, rfl, h⟩
              exact u_iret dX11_twin_84 ⟨rfl, id⟩ h
            · have h := h.2 c70
              refine v_iload_n dX11_twin_62 rfl rfl ?_
              refine v_iconst (v := -1) dX11_twin_63 (by decide) ?_
              refine v_icmp_eq (tgt := 85) dX11_twin_64 (by decide) (fun c73 => ?_) (fun c73 => ?_)
              · have h := h.1 c73
                refine v_aload_n dX11_twin_85 rfl rfl ?_
                refine v_iconst (v := 4) dX11_twin_86 (by decide) ?_
                refine v_iconst (v := 0) dX11_twin_87 (by decide) ?_
                refine v_iload_n dX11_twin_88 rfl rfl ?_
                refine v_iload_n dX11_twin_89 rfl rfl ?_
                refine u_callV [.int (4 : Int32), .int (0 : Int32), .int a1, .int a2] mX11_newCylinder iX11_newCylinder lX11_83 dX11_twin_90 sh_66 rfl rfl (by decide) ⟨rfl, rfl, id⟩ rfl rfl (Nat.le_of_ble_eq_true rfl) (Nat.le_of_ble_eq_true rfl) (v_X11_newCylinder (4 : Int32) (0 : Int32) a1 a2 _ _ h) ?_
                rintro _ τ75 ⟨r74, rfl, h⟩
                exact u_iret dX11_twin_93 ⟨rfl, id⟩ h
              · have h := h.2 c73
                refine v_aload_n dX11_twin_67 rfl rfl ?_
                refine u_getr fX11_7 dX11_twin_68 sh_66 rfl (by decide) (rf_66_0 _) ?_
                refine v_iconst (v := 0) dX11_twin_71 (by decide) ?_
                refine v_iload_n dX11_twin_72 rfl rfl ?_
                refine v_iadd dX11_twin_73 ?_
                obtain ⟨j76, e_j76, l_j76, h⟩ := h
                refine u_iald dX11_twin_74 sh_67 (by decide) (by decide) e_j76 l_j76 ?_
                refine v_iconst (v := 4) dX11_twin_75 (by decide) ?_
                refine v_icmp_ne (tgt := 85) dX11_twin_76 (by decide) (fun c77 => ?_) (fun c77 => ?_)
                · have h := h.1 c77
                  refine v_aload_n dX11_twin_85 rfl rfl ?_
                  refine v_iconst (v := 4) dX11_twin_86 (by decide) ?_
                  refine v_iconst (v := 0) dX11_twin_87 (by decide) ?_
                  refine v_iload_n dX11_twin_88 rfl rfl ?_
                  refine v_iload_n dX11_twin_89 rfl rfl ?_
                  refine u_callV [.int (4 : Int32), .int (0 : Int32), .int a1, .int a2] mX11_newCylinder iX11_newCylinder lX11_83 dX11_twin_90 sh_66 rfl rfl (by decide) ⟨rfl, rfl, id⟩ rfl rfl (Nat.le_of_ble_eq_true rfl) (Nat.le_of_ble_eq_true rfl) (v_X11_newCylinder (4 : Int32) (0 : Int32) a1 a2 _ _ h) ?_
                  rintro _ τ79 ⟨r78, rfl, h⟩
                  exact u_iret dX11_twin_93 ⟨rfl, id⟩ h
                · have h := h.2 c77
                  refine v_aload_n dX11_twin_79 rfl rfl ?_
                  refine v_iconst (v := 3) dX11_twin_80 (by decide) ?_
                  refine u_callV [.int (3 : Int32)] mX11_met iX11_met lX11_80 dX11_twin_81 sh_66 rfl rfl (by decide) ⟨rfl, rfl, id⟩ rfl rfl (Nat.le_of_ble_eq_true rfl) (Nat.le_of_ble_eq_true rfl) (v_X11_met (3 : Int32) _ _ h) ?_
                  rintro _ τ81 ⟨r80, rfl, h⟩
                  exact u_iret dX11_twin_84 ⟨rfl, id⟩ h
        · have h := h.2 c58
          refine v_bipush (v := -4) dX11_twin_42 (by decide) ?_
          exact u_iret dX11_twin_44 ⟨rfl, id⟩ h
      · have h := h.2 c57
        refine v_aload_n dX11_twin_18 rfl rfl ?_
        refine v_iload_n dX11_twin_19 rfl rfl ?_
        refine u_callV [.int a2] mX11_isCylinder iX11_isCylinder lX11_87 dX11_twin_20 sh_66 rfl rfl (by decide) ⟨rfl, rfl, id⟩ rfl rfl (Nat.le_of_ble_eq_true rfl) (Nat.le_of_ble_eq_true rfl) (v_X11_isCylinder a2 _ _ h) ?_
        rintro _ τ83 ⟨r82, rfl, h⟩
        refine v_if_ne (tgt := 29) dX11_twin_23 (by decide) (fun c84 => ?_) (fun c84 => ?_)
        · have h := h.1 c84
          refine v_aload_n dX11_twin_29 rfl rfl ?_
          refine u_getr fX11_7 dX11_twin_30 sh_66 rfl (by decide) (rf_66_0 _) ?_
          refine v_sipush (v := 8522) dX11_twin_33 (by decide) ?_
          refine u_iald dX11_twin_36 sh_67 (by decide) (by decide) rfl (by decide) ?_
          refine v_bipush (v := 100) dX11_twin_37 (by decide) ?_
          refine v_icmp_ne (tgt := 45) dX11_twin_39 (by decide) (fun c85 => ?_) (fun c85 => ?_)
          · have h := h.1 c85
            refine v_iload_n dX11_twin_45 rfl rfl ?_
            refine v_iconst (v := -1) dX11_twin_46 (by decide) ?_
            refine v_icmp_eq (tgt := 62) dX11_twin_47 (by decide) (fun c86 => ?_) (fun c86 => ?_)
            · have h := h.1 c86
              refine v_iload_n dX11_twin_62 rfl rfl ?_
              refine v_iconst (v := -1) dX11_twin_63 (by decide) ?_
              refine v_icmp_eq (tgt := 85) dX11_twin_64 (by decide) (fun c87 => ?_) (fun c87 => ?_)
              · have h := h.1 c87
                refine v_aload_n dX11_twin_85 rfl rfl ?_
                refine v_iconst (v := 4) dX11_twin_86 (by decide) ?_
                refine v_iconst (v := 0) dX11_twin_87 (by decide) ?_
                refine v_iload_n dX11_twin_88 rfl rfl ?_
                refine v_iload_n dX11_twin_89 rfl rfl ?_
                refine u_callV [.int (4 : Int32), .int (0 : Int32), .int a1, .int a2] mX11_newCylinder iX11_newCylinder lX11_83 dX11_twin_90 sh_66 rfl rfl (by decide) ⟨rfl, rfl, id⟩ rfl rfl (Nat.le_of_ble_eq_true rfl) (Nat.le_of_ble_eq_true rfl) (v_X11_newCylinder (4 : Int32) (0 : Int32) a1 a2 _ _ h) ?_
                rintro _ τ89 ⟨r88, rfl, h⟩
                exact u_iret dX11_twin_93 ⟨rfl, id⟩ h
              · have h := h.2 c87
                refine v_aload_n dX11_twin_67 rfl rfl ?_
                refine u_getr fX11_7 dX11_twin_68 sh_66 rfl (by decide) (rf_66_0 _) ?_
                refine v_iconst (v := 0) dX11_twin_71 (by decide) ?_
                refine v_iload_n dX11_twin_72 rfl rfl ?_
                refine v_iadd dX11_twin_73 ?_
                obtain ⟨j90, e_j90, l_j90, h⟩ := h
                refine u_iald dX11_twin_74 sh_67 (by decide) (by decide) e_j90 l_j90 ?_
                refine v_iconst (v := 4) dX11_twin_75 (by decide) ?_
                refine v_icmp_ne (tgt := 85) dX11_twin_76 (by decide) (fun c91 => ?_) (fun c91 => ?_)
                · have h := h.1 c91
                  refine v_aload_n dX11_twin_85 rfl rfl ?_
                  refine v_iconst (v := 4) dX11_twin_86 (by decide) ?_
                  refine v_iconst (v := 0) dX11_twin_87 (by decide) ?_
                  refine v_iload_n dX11_twin_88 rfl rfl ?_
                  refine v_iload_n dX11_twin_89 rfl rfl ?_
                  refine u_callV [.int (4 : Int32), .int (0 : Int32), .int a1, .int a2] mX11_newCylinder iX11_newCylinder lX11_83 dX11_twin_90 sh_66 rfl rfl (by decide) ⟨rfl, rfl, id⟩ rfl rfl (Nat.le_of_ble_eq_true rfl) (Nat.le_of_ble_eq_true rfl) (v_X11_newCylinder (4 : Int32) (0 : Int32) a1 a2 _ _ h) ?_
                  rintro _ τ93 ⟨r92, rfl, h⟩
                  exact u_iret dX11_twin_93 ⟨rfl, id⟩ h
                · have h := h.2 c91
                  refine v_aload_n dX11_twin_79 rfl rfl ?_
                  refine v_iconst (v := 3) dX11_twin_80 (by decide) ?_
                  refine u_callV [.int (3 : Int32)] mX11_met iX11_met lX11_80 dX11_twin_81 sh_66 rfl rfl (by decide) ⟨rfl, rfl, id⟩ rfl rfl (Nat.le_of_ble_eq_true rfl) (Nat.le_of_ble_eq_true rfl) (v_X11_met (3 : Int32) _ _ h) ?_
                  rintro _ τ95 ⟨r94, rfl, h⟩
                  exact u_iret dX11_twin_84 ⟨rfl, id⟩ h
            · have h := h.2 c86
              refine v_aload_n dX11_twin_50 rfl rfl ?_
              refine u_getr fX11_7 dX11_twin_51 sh_66 rfl (by decide) (rf_66_0 _) ?_
              refine v_iconst (v := 0) dX11_twin_54 (by decide) ?_
              refine v_iload_n dX11_twin_55 rfl rfl ?_
              refine v_iadd dX11_twin_56 ?_
              obtain ⟨j96, e_j96, l_j96, h⟩ := h
              refine u_iald dX11_twin_57 sh_67 (by decide) (by decide) e_j96 l_j96 ?_
              refine v_iconst (v := 4) dX11_twin_58 (by decide) ?_
              refine v_icmp_eq (tgt := 79) dX11_twin_59 (by decide) (fun c97 => ?_) (fun c97 => ?_)
              · have h := h.1 c97
                refine v_aload_n dX11_twin_79 rfl rfl ?_
                refine v_iconst (v := 3) dX11_twin_80 (by decide) ?_
                refine u_callV [.int (3 : Int32)] mX11_met iX11_met lX11_80 dX11_twin_81 sh_66 rfl rfl (by decide) ⟨rfl, rfl, id⟩ rfl rfl (Nat.le_of_ble_eq_true rfl) (Nat.le_of_ble_eq_true rfl) (v_X11_met (3 : Int32) _ _ h) ?_
                rintro _ τ99 ⟨r98, rfl, h⟩
                exact u_iret dX11_twin_84 ⟨rfl, id⟩ h
              · have h := h.2 c97
                refine v_iload_n dX11_twin_62 rfl rfl ?_
                refine v_iconst (v := -1) dX11_twin_63 (by decide) ?_
                refine v_icmp_eq (tgt := 85) dX11_twin_64 (by decide) (fun c100 => ?_) (fun c100 => ?_)
                · have h := h.1 c100
                  refine v_aload_n dX11_twin_85 rfl rfl ?_
                  refine v_iconst (v := 4) dX11_twin_86 (by decide) ?_
                  refine v_iconst (v := 0) dX11_twin_87 (by decide) ?_
                  refine v_iload_n dX11_twin_88 rfl rfl ?_
                  refine v_iload_n dX11_twin_89 rfl rfl ?_
                  refine u_callV [.int (4 : Int32), .int (0 : Int32), .int a1, .int a2] mX11_newCylinder iX11_newCylinder lX11_83 dX11_twin_90 sh_66 rfl rfl (by decide) ⟨rfl, rfl, id⟩ rfl rfl (Nat.le_of_ble_eq_true rfl) (Nat.le_of_ble_eq_true rfl) (v_X11_newCylinder (4 : Int32) (0 : Int32) a1 a2 _ _ h) ?_
                  rintro _ τ102 ⟨r101, rfl, h⟩
                  exact u_iret dX11_twin_93 ⟨rfl, id⟩ h
                · have h := h.2 c100
                  refine v_aload_n dX11_twin_67 rfl rfl ?_
                  refine u_getr fX11_7 dX11_twin_68 sh_66 rfl (by decide) (rf_66_0 _) ?_
                  refine v_iconst (v := 0) dX11_twin_71 (by decide) ?_
                  refine v_iload_n dX11_twin_72 rfl rfl ?_
                  refine v_iadd dX11_twin_73 ?_
                  obtain ⟨j103, e_j103, l_j103, h⟩ := h
                  refine u_iald dX11_twin_74 sh_67 (by decide) (by decide) e_j103 l_j103 ?_
                  refine v_iconst (v := 4) dX11_twin_75 (by decide) ?_
                  refine v_icmp_ne (tgt := 85) dX11_twin_76 (by decide) (fun c104 => ?_) (fun c104 => ?_)
                  · have h := h.1 c104
                    refine v_aload_n dX11_twin_85 rfl rfl ?_
                    refine v_iconst (v := 4) dX11_twin_86 (by decide) ?_
                    refine v_iconst (v := 0) dX11_twin_87 (by decide) ?_
                    refine v_iload_n dX11_twin_88 rfl rfl ?_
                    refine v_iload_n dX11_twin_89 rfl rfl ?_
                    refine u_callV [.int (4 : Int32), .int (0 : Int32), .int a1, .int a2] mX11_newCylinder iX11_newCylinder lX11_83 dX11_twin_90 sh_66 rfl rfl (by decide) ⟨rfl, rfl, id⟩ rfl rfl (Nat.le_of_ble_eq_true rfl) (Nat.le_of_ble_eq_true rfl) (v_X11_newCylinder (4 : Int32) (0 : Int32) a1 a2 _ _ h) ?_
                    rintro _ τ106 ⟨r105, rfl, h⟩
                    exact u_iret dX11_twin_93 ⟨rfl, id⟩ h
                  · have h := h.2 c104
                    refine v_aload_n dX11_twin_79 rfl rfl ?_
                    refine v_iconst (v := 3) dX11_twin_80 (by decide) ?_
                    refine u_callV [.int (3 : Int32)] mX11_met iX11_met lX11_80 dX11_twin_81 sh_66 rfl rfl (by decide) ⟨rfl, rfl, id⟩ rfl rfl (Nat.le_of_ble_eq_true rfl) (Nat.le_of_ble_eq_true rfl) (v_X11_met (3 : Int32) _ _ h) ?_
                    rintro _ τ108 ⟨r107, rfl, h⟩
                    exact u_iret dX11_twin_84 ⟨rfl, id⟩ h
          · have h := h.2 c85
            refine v_bipush (v := -4) dX11_twin_42 (by decide) ?_
            exact u_iret dX11_twin_44 ⟨rfl, id⟩ h
        · have h := h.2 c84
          refine v_bipush (v := -2) dX11_twin_26 (by decide) ?_
          exact u_iret dX11_twin_28 ⟨rfl, id⟩ h
def T_X11_wrong (a1 : Int32) (a2 : Int32) (τ : kT) (post : Int32 → kT → Prop) : Prop := (∃ j1 : Nat, ((0 : Int32) + a1) = nI j1 ∧ j1 < 8530 ∧ ((¬ (q_i τ 67 j1) = (4 : Int32) → (∃ j3 : Nat, ((100 : Int32) + a1) = nI j3 ∧ j3 < 8530 ∧ ((0 ≤ (q_i τ 67 j3) → (∃ j5 : Nat, ((100 : Int32) + a1) = nI j5 ∧ j5 < 8530 ∧ (T_X11_in ((a2).toInt64) (0 : Int64) ((((q_i τ 67 j5) - (1 : Int32))).toInt64) τ (fun r6 τ7 => ((r6 = 0 → post (2 : Int32) τ7) ∧ (¬ r6 = 0 → post (0 : Int32) τ7)))))) ∧ (¬ 0 ≤ (q_i τ 67 j3) → post (1 : Int32) τ)))) ∧ ((q_i τ 67 j1) = (4 : Int32) → post (3 : Int32) τ)))
set_option maxRecDepth 100000 in
set_option maxHeartbeats 4000000 in
theorem v_X11_wrong {d : Nat}  (a1 : Int32) (a2 : Int32) (τ : kT) (post : Int32 → kT → Prop) (h : T_X11_wrong  a1 a2 τ post) : U yX11_wrong cX11_wrong 3 (some .int) (d + 1) kE0 0 [some (.ref 66), some (.int a1), some (.int a2)] [] τ (k_pi post) := by
  unfold T_X11_wrong at h
  refine v_aload_n dX11_wrong_0 rfl rfl ?_
  refine u_getr fX11_7 dX11_wrong_1 sh_66 rfl (by decide) (rf_66_0 _) ?_
  refine v_iconst (v := 0) dX11_wrong_4 (by decide) ?_
  refine v_iload_n dX11_wrong_5 rfl rfl ?_
  refine v_iadd dX11_wrong_6 ?_
  obtain ⟨j1, e_j1, l_j1, h⟩ := h
  refine u_iald dX11_wrong_7 sh_67 (by decide) (by decide) e_j1 l_j1 ?_
  refine v_iconst (v := 4) dX11_wrong_8 (by decide) ?_
  refine v_icmp_ne (tgt := 16) dX11_wrong_9 (by decide) (fun c2 => ?_) (fun c2 => ?_)
  · have h := h.1 c2
    refine v_aload_n dX11_wrong_16 rfl rfl ?_
    refine u_getr fX11_7 dX11_wrong_17 sh_66 rfl (by decide) (rf_66_0 _) ?_
    refine v_bipush (v := 100) dX11_wrong_20 (by decide) ?_
    refine v_iload_n dX11_wrong_22 rfl rfl ?_
    refine v_iadd dX11_wrong_23 ?_
    obtain ⟨j3, e_j3, l_j3, h⟩ := h
    refine u_iald dX11_wrong_24 sh_67 (by decide) (by decide) e_j3 l_j3 ?_
    refine v_if_ge (tgt := 32) dX11_wrong_25 (by decide) (fun c4 => ?_) (fun c4 => ?_)
    · have h := h.1 c4
      refine v_iload_n dX11_wrong_32 rfl rfl ?_
      refine v_i2l dX11_wrong_33 ?_
      refine v_lconst (v := 0) dX11_wrong_34 (by decide) ?_
      refine v_aload_n dX11_wrong_35 rfl rfl ?_
      refine u_getr fX11_7 dX11_wrong_36 sh_66 rfl (by decide) (rf_66_0 _) ?_
      refine v_bipush (v := 100) dX11_wrong_39 (by decide) ?_
      refine v_iload_n dX11_wrong_41 rfl rfl ?_
      refine v_iadd dX11_wrong_42 ?_
      obtain ⟨j5, e_j5, l_j5, h⟩ := h
      refine u_iald dX11_wrong_43 sh_67 (by decide) (by decide) e_j5 l_j5 ?_
      refine v_iconst (v := 1) dX11_wrong_44 (by decide) ?_
      refine v_isub dX11_wrong_45 ?_
      refine v_i2l dX11_wrong_46 ?_
      refine u_callS [.long ((a2).toInt64), .long (0 : Int64), .long ((((q_i τ 67 j5) - (1 : Int32))).toInt64)] mX11_in sX11_in lX11_67 dX11_wrong_47 ⟨rfl, rfl, id⟩ rfl rfl (Nat.le_of_ble_eq_true rfl) (Nat.le_of_ble_eq_true rfl) (v_X11_in ((a2).toInt64) (0 : Int64) ((((q_i τ 67 j5) - (1 : Int32))).toInt64) _ _ h) ?_
      rintro _ τ7 ⟨r6, rfl, h⟩
      refine v_if_eq (tgt := 57) dX11_wrong_50 (by decide) (fun c8 => ?_) (fun c8 => ?_)
      · have h := h.1 c8
        refine v_iconst (v := 2) dX11_wrong_57 (by decide) ?_
        exact u_iret dX11_wrong_58 ⟨rfl, id⟩ h
      · have h := h.2 c8
        refine v_iconst (v := 0) dX11_wrong_53 (by decide) ?_
        refine v_goto (tgt := 58) dX11_wrong_54 (by decide) ?_
        exact u_iret dX11_wrong_58 ⟨rfl, id⟩ h
    · have h := h.2 c4
      refine v_iconst (v := 1) dX11_wrong_28 (by decide) ?_
      refine v_goto (tgt := 58) dX11_wrong_29 (by decide) ?_
      exact u_iret dX11_wrong_58 ⟨rfl, id⟩ h
  · have h := h.2 c2
    refine v_iconst (v := 3) dX11_wrong_12 (by decide) ?_
    refine v_goto (tgt := 58) dX11_wrong_13 (by decide) ?_
    exact u_iret dX11_wrong_58 ⟨rfl, id⟩ h
def L_X11_bits_4  (f0 : Int32) (K : Int32 → Int32 → kT → Prop) (post : Int32 → kT → Prop) : Nat → Int32 → Int32 → kT → Prop
  | 0, _, _, _ => False
  | n + 1, x1, x2, τ => (((31 : Int32) ≤ x2 → K x1 x2 τ) ∧ (¬ (31 : Int32) ≤ x2 → (∀ v2 : Int32, v2 = (x1 + ((f0 >>> (x2 &&& 31)) &&& (1 : Int32))) → (∀ v3 : Int32, v3 = x2 + (1 : Int32) → L_X11_bits_4 f0 K post n v2 v3 τ))))
def T_X11_bits (a1 : Int32) (τ : kT) (post : Int32 → kT → Prop) : Prop := (∃ m4 : Nat, L_X11_bits_4  a1 (fun v5 v6 τ7 => post v5 τ7) post m4 (0 : Int32) (0 : Int32) τ)
set_option maxRecDepth 100000 in
set_option maxHeartbeats 4000000 in
theorem l_X11_bits_4 {d : Nat}  (f0 : Int32) {K : Int32 → Int32 → kT → Prop} {post : Int32 → kT → Prop} (hK : ∀ (x1 : Int32) (x2 : Int32) (τ : kT), K x1 x2 τ → U yX11_bits cX11_bits 3 (some .int) (d + 0) kE0 24 [some (.int f0), some (.int x1), some (.int x2)] [] τ (k_pi post)) : ∀ (n : Nat) (x1 : Int32) (x2 : Int32) (τ : kT), L_X11_bits_4  f0 K post n x1 x2 τ → U yX11_bits cX11_bits 3 (some .int) (d + 0) kE0 4 [some (.int f0), some (.int x1), some (.int x2)] [] τ (k_pi post) := by
  intro n
  induction n with
  | zero => intro x1 x2 τ h; exact h.elim
  | succ n ih =>
    intro x1 x2 τ h
    unfold L_X11_bits_4 at h
    refine v_iload_n dX11_bits_4 rfl rfl ?_
    refine v_bipush (v := 31) dX11_bits_5 (by decide) ?_
    refine v_icmp_ge (tgt := 24) dX11_bits_7 (by decide) (fun c1 => ?_) (fun c1 => ?_)
    · have h := h.1 c1
      exact hK x1 x2 _ h
    · have h := h.2 c1
      refine v_iload_n dX11_bits_10 rfl rfl ?_
      refine v_iload_n dX11_bits_11 rfl rfl ?_
      refine v_iload_n dX11_bits_12 rfl rfl ?_
      refine v_ishr dX11_bits_13 ?_
      refine v_iconst (v := 1) dX11_bits_14 (by decide) ?_
      refine v_iand dX11_bits_15 ?_
      refine v_iadd dX11_bits_16 ?_
      refine v_topi (fun v2 e_v2 => ?_)
      have h := h v2 e_v2
      refine v_istore_n dX11_bits_17 rfl (by decide) rfl ?_
      refine v_ls (ls2 := [some (.int f0), some (.int v2), some (.int x2)]) rfl ?_
      obtain ⟨v3, e_v3⟩ : ∃ z : Int32, z = x2 + (1 : Int32) := ⟨_, rfl⟩
      have h := h v3 e_v3
      refine v_iinc (v := v3) dX11_bits_18 rfl (by rw [e_v3]; rfl) (by decide) rfl ?_
      refine v_ls (ls2 := [some (.int f0), some (.int v2), some (.int v3)]) rfl ?_
      refine v_goto (tgt := 4) dX11_bits_21 (by decide) ?_
      exact ih v2 v3 _ h
set_option maxRecDepth 100000 in
set_option maxHeartbeats 4000000 in
theorem v_X11_bits {d : Nat}  (a1 : Int32) (τ : kT) (post : Int32 → kT → Prop) (h : T_X11_bits  a1 τ post) : U yX11_bits cX11_bits 3 (some .int) (d + 0) kE0 0 [some (.int a1), none, none] [] τ (k_pi post) := by
  unfold T_X11_bits at h
  refine v_iconst (v := 0) dX11_bits_0 (by decide) ?_
  refine v_istore_n dX11_bits_1 rfl (by decide) rfl ?_
  refine v_ls (ls2 := [some (.int a1), some (.int (0 : Int32)), none]) rfl ?_
  refine v_iconst (v := 0) dX11_bits_2 (by decide) ?_
  refine v_istore_n dX11_bits_3 rfl (by decide) rfl ?_
  refine v_ls (ls2 := [some (.int a1), some (.int (0 : Int32)), some (.int (0 : Int32))]) rfl ?_
  obtain ⟨m4, h⟩ := h
  refine l_X11_bits_4  a1 (fun v5 v6 τ7 h => ?_) m4 (0 : Int32) (0 : Int32) _ h
  refine v_iload_n dX11_bits_24 rfl rfl ?_
  exact u_iret dX11_bits_25 ⟨rfl, id⟩ h
def T_X11_most (a1 : Int32) (τ : kT) (post : Int32 → kT → Prop) : Prop := ((¬ a1 = 0 → ((¬ a1 = (3 : Int32) → post (4 : Int32) τ) ∧ (a1 = (3 : Int32) → post (0 : Int32) τ))) ∧ (a1 = 0 → post (1 : Int32) τ))
set_option maxRecDepth 100000 in
set_option maxHeartbeats 4000000 in
theorem v_X11_most {d : Nat}  (a1 : Int32) (τ : kT) (post : Int32 → kT → Prop) (h : T_X11_most  a1 τ post) : U yX11_most cX11_most 1 (some .int) (d + 0) kE0 0 [some (.int a1)] [] τ (k_pi post) := by
  unfold T_X11_most at h
  refine v_iload_n dX11_most_0 rfl rfl ?_
  refine v_if_ne (tgt := 8) dX11_most_1 (by decide) (fun c1 => ?_) (fun c1 => ?_)
  · have h := h.1 c1
    refine v_iload_n dX11_most_8 rfl rfl ?_
    refine v_iconst (v := 3) dX11_most_9 (by decide) ?_
    refine v_icmp_ne (tgt := 17) dX11_most_10 (by decide) (fun c2 => ?_) (fun c2 => ?_)
    · have h := h.1 c2
      refine v_iconst (v := 4) dX11_most_17 (by decide) ?_
      exact u_iret dX11_most_18 ⟨rfl, id⟩ h
    · have h := h.2 c2
      refine v_iconst (v := 0) dX11_most_13 (by decide) ?_
      refine v_goto (tgt := 18) dX11_most_14 (by decide) ?_
      exact u_iret dX11_most_18 ⟨rfl, id⟩ h
  · have h := h.2 c1
    refine v_iconst (v := 1) dX11_most_4 (by decide) ?_
    refine v_goto (tgt := 18) dX11_most_5 (by decide) ?_
    exact u_iret dX11_most_18 ⟨rfl, id⟩ h
def T_X11_height (a1 : Int32) (a2 : Int32) (a3 : Int32) (a4 : Int32) (τ : kT) (post : Int32 → kT → Prop) : Prop := (T_X11_isCylinder a1 τ (fun r1 τ2 => ((r1 = 0 → post (-2 : Int32) τ2) ∧ (¬ r1 = 0 → (T_X11_in ((a3).toInt64) (0 : Int64) (9 : Int64) τ2 (fun r4 τ5 => ((¬ r4 = 0 → (T_X11_wrong a1 a2 τ5 (fun r7 τ8 => ((r7 ≤ 0 → (∀ v10 : Int32, v10 = (((400 : Int32) + ((18 : Int32) * a1)) + a2) → ((a4 = 0 → (∃ j12 : Nat, v10 = nI j12 ∧ j12 < 8530 ∧ (∀ v13 : Int32, v13 = ((q_i τ8 67 j12) &&& (((1 : Int32) <<< (a3 &&& 31)) ^^^ (-1 : Int32))) → (T_X11_bits v13 τ8 (fun r14 τ15 => (∃ j16 : Nat, ((0 : Int32) + a1) = nI j16 ∧ j16 < 8530 ∧ (T_X11_most (q_i τ15 67 j16) τ15 (fun r17 τ18 => ((r14 ≤ r17 → (T_X11_change  τ18 (fun τ21 => (∃ j22 : Nat, v10 = nI j22 ∧ j22 < 8530 ∧ (∀ τ23 : kT, τ23 = q_si τ21 67 j22 v13 → (T_X11_bits v13 τ23 (fun r24 τ25 => (T_X11_well r24 τ25 (fun r26 τ27 => post r26 τ27))))))))) ∧ (¬ r14 ≤ r17 → post (-4 : Int32) τ18)))))))))) ∧ (¬ a4 = 0 → (∃ j28 : Nat, v10 = nI j28 ∧ j28 < 8530 ∧ (∀ v29 : Int32, v29 = ((q_i τ8 67 j28) ||| ((1 : Int32) <<< (a3 &&& 31))) → (T_X11_bits v29 τ8 (fun r30 τ31 => (∃ j32 : Nat, ((0 : Int32) + a1) = nI j32 ∧ j32 < 8530 ∧ (T_X11_most (q_i τ31 67 j32) τ31 (fun r33 τ34 => ((r30 ≤ r33 → (T_X11_change  τ34 (fun τ37 => (∃ j38 : Nat, v10 = nI j38 ∧ j38 < 8530 ∧ (∀ τ39 : kT, τ39 = q_si τ37 67 j38 v29 → (T_X11_bits v29 τ39 (fun r40 τ41 => (T_X11_well r40 τ41 (fun r42 τ43 => post r42 τ43))))))))) ∧ (¬ r30 ≤ r33 → post (-4 : Int32) τ34))))))))))))) ∧ (¬ r7 ≤ 0 → (T_X11_met r7 τ8 (fun r44 τ45 => post r44 τ45))))))) ∧ (r4 = 0 → post (-2 : Int32) τ5))))))))
set_option maxRecDepth 100000 in
set_option maxHeartbeats 4000000 in
theorem v_X11_height {d : Nat}  (a1 : Int32) (a2 : Int32) (a3 : Int32) (a4 : Int32) (τ : kT) (post : Int32 → kT → Prop) (h : T_X11_height  a1 a2 a3 a4 τ post) : U yX11_height cX11_height 8 (some .int) (d + 2) kE0 0 [some (.ref 66), some (.int a1), some (.int a2), some (.int a3), some (.int a4), none, none, none] [] τ (k_pi post) := by
  unfold T_X11_height at h
  refine v_aload_n dX11_height_0 rfl rfl ?_
  refine v_iload_n dX11_height_1 rfl rfl ?_
  refine u_callV [.int a1] mX11_isCylinder iX11_isCylinder lX11_87 dX11_height_2 sh_66 rfl rfl (by decide) ⟨rfl, rfl, id⟩ rfl rfl (Nat.le_of_ble_eq_true rfl) (Nat.le_of_ble_eq_true rfl) (v_X11_isCylinder a1 _ _ h) ?_
  rintro _ τ2 ⟨r1, rfl, h⟩
  refine v_if_eq (tgt := 20) dX11_height_5 (by decide) (fun c3 => ?_) (fun c3 => ?_)
  · have h := h.1 c3
    refine v_bipush (v := -2) dX11_height_20 (by decide) ?_
    exact u_iret dX11_height_22 ⟨rfl, id⟩ h
  · have h := h.2 c3
    refine v_iload_n dX11_height_8 rfl rfl ?_
    refine v_i2l dX11_height_9 ?_
    refine v_lconst (v := 0) dX11_height_10 (by decide) ?_
    refine v_ldc2 kX11_91 dX11_height_11 ?_
    refine u_callS [.long ((a3).toInt64), .long (0 : Int64), .long (9 : Int64)] mX11_in sX11_in lX11_67 dX11_height_14 ⟨rfl, rfl, id⟩ rfl rfl (Nat.le_of_ble_eq_true rfl) (Nat.le_of_ble_eq_true rfl) (v_X11_in ((a3).toInt64) (0 : Int64) (9 : Int64) _ _ h) ?_
    rintro _ τ5 ⟨r4, rfl, h⟩
    refine v_if_ne (tgt := 23) dX11_height_17 (by decide) (fun c6 => ?_) (fun c6 => ?_)
    · have h := h.1 c6
      refine v_aload_n dX11_height_23 rfl rfl ?_
      refine v_iload_n dX11_height_24 rfl rfl ?_
      refine v_iload_n dX11_height_25 rfl rfl ?_
      refine u_callV [.int a1, .int a2] mX11_wrong iX11_wrong lX11_93 dX11_height_26 sh_66 rfl rfl (by decide) ⟨rfl, rfl, id⟩ rfl rfl (Nat.le_of_ble_eq_true rfl) (Nat.le_of_ble_eq_true rfl) (v_X11_wrong a1 a2 _ _ h) ?_
      rintro _ τ8 ⟨r7, rfl, h⟩
      refine v_istore dX11_height_29 (by decide) rfl ?_
      refine v_ls (ls2 := [some (.ref 66), some (.int a1), some (.int a2), some (.int a3), some (.int a4), some (.int r7), none, none]) rfl ?_
      refine v_iload dX11_height_31 rfl ?_
      refine v_if_le (tgt := 43) dX11_height_33 (by decide) (fun c9 => ?_) (fun c9 => ?_)
      · have h := h.1 c9
        refine v_sipush (v := 400) dX11_height_43 (by decide) ?_
        refine v_bipush (v := 18) dX11_height_46 (by decide) ?_
        refine v_iload_n dX11_height_48 rfl rfl ?_
        refine v_imul dX11_height_49 ?_
        refine v_iadd dX11_height_50 ?_
        refine v_iload_n dX11_height_51 rfl rfl ?_
        refine v_iadd dX11_height_52 ?_
        refine v_topi (fun v10 e_v10 => ?_)
        have h := h v10 e_v10
        refine v_istore dX11_height_53 (by decide) rfl ?_
        refine v_ls (ls2 := [some (.ref 66), some (.int a1), some (.int a2), some (.int a3), some (.int a4), some (.int r7), some (.int v10), none]) rfl ?_
        refine v_iload dX11_height_55 rfl ?_
        refine v_if_eq (tgt := 74) dX11_height_57 (by decide) (fun c11 => ?_) (fun c11 => ?_)
        · have h := h.1 c11
          refine v_aload_n dX11_height_74 rfl rfl ?_
          refine u_getr fX11_7 dX11_height_75 sh_66 rfl (by decide) (rf_66_0 _) ?_
          refine v_iload dX11_height_78 rfl ?_
          obtain ⟨j12, e_j12, l_j12, h⟩ := h
          refine u_iald dX11_height_80 sh_67 (by decide) (by decide) e_j12 l_j12 ?_
          refine v_iconst (v := 1) dX11_height_81 (by decide) ?_
          refine v_iload_n dX11_height_82 rfl rfl ?_
          refine v_ishl dX11_height_83 ?_
          refine v_iconst (v := -1) dX11_height_84 (by decide) ?_
          refine v_ixor dX11_height_85 ?_
          refine v_iand dX11_height_86 ?_
          refine v_topi (fun v13 e_v13 => ?_)
          have h := h v13 e_v13
          refine v_istore dX11_height_87 (by decide) rfl ?_
          refine v_ls (ls2 := [some (.ref 66), some (.int a1), some (.int a2), some (.int a3), some (.int a4), some (.int r7), some (.int v10), some (.int v13)]) rfl ?_
          refine v_iload dX11_height_89 rfl ?_
          refine u_callS [.int v13] mX11_bits sX11_bits lX11_97 dX11_height_91 ⟨rfl, rfl, id⟩ rfl rfl (Nat.le_of_ble_eq_true rfl) (Nat.le_of_ble_eq_true rfl) (v_X11_bits v13 _ _ h) ?_
          rintro _ τ15 ⟨r14, rfl, h⟩
          refine v_aload_n dX11_height_94 rfl rfl ?_
          refine u_getr fX11_7 dX11_height_95 sh_66 rfl (by decide) (rf_66_0 _) ?_
          refine v_iconst (v := 0) dX11_height_98 (by decide) ?_
          refine v_iload_n dX11_height_99 rfl rfl ?_
          refine v_iadd dX11_height_100 ?_
          obtain ⟨j16, e_j16, l_j16, h⟩ := h
          refine u_iald dX11_height_101 sh_67 (by decide) (by decide) e_j16 l_j16 ?_
          refine u_callS [.int (q_i τ15 67 j16)] mX11_most sX11_most lX11_100 dX11_height_102 ⟨rfl, rfl, id⟩ rfl rfl (Nat.le_of_ble_eq_true rfl) (Nat.le_of_ble_eq_true rfl) (v_X11_most (q_i τ15 67 j16) _ _ h) ?_
          rintro _ τ18 ⟨r17, rfl, h⟩
          refine v_icmp_le (tgt := 111) dX11_height_105 (by decide) (fun c19 => ?_) (fun c19 => ?_)
          · have h := h.1 c19
            refine v_aload_n dX11_height_111 rfl rfl ?_
            refine u_callV [] mX11_change iX11_change lX11_71 dX11_height_112 sh_66 rfl rfl (by decide) ⟨rfl, rfl, id⟩ rfl rfl (Nat.le_of_ble_eq_true rfl) (Nat.le_of_ble_eq_true rfl) (v_X11_change  _ _ h) ?_
            rintro _ τ21 ⟨rfl, h⟩
            refine v_aload_n dX11_height_115 rfl rfl ?_
            refine u_getr fX11_7 dX11_height_116 sh_66 rfl (by decide) (rf_66_0 _) ?_
            refine v_iload dX11_height_119 rfl ?_
            refine v_iload dX11_height_121 rfl ?_
            obtain ⟨j22, e_j22, l_j22, h⟩ := h
            refine u_iast dX11_height_123 sh_67 (by decide) (by decide) e_j22 l_j22 (fun τ23 e_τ23 => ?_)
            have h := h τ23 e_τ23
            refine v_aload_n dX11_height_124 rfl rfl ?_
            refine v_iload dX11_height_125 rfl ?_
            refine u_callS [.int v13] mX11_bits sX11_bits lX11_97 dX11_height_127 ⟨rfl, rfl, id⟩ rfl rfl (Nat.le_of_ble_eq_true rfl) (Nat.le_of_ble_eq_true rfl) (v_X11_bits v13 _ _ h) ?_
            rintro _ τ25 ⟨r24, rfl, h⟩
            refine u_callV [.int r24] mX11_well iX11_well lX11_74 dX11_height_130 sh_66 rfl rfl (by decide) ⟨rfl, rfl, id⟩ rfl rfl (Nat.le_of_ble_eq_true rfl) (Nat.le_of_ble_eq_true rfl) (v_X11_well r24 _ _ h) ?_
            rintro _ τ27 ⟨r26, rfl, h⟩
            exact u_iret dX11_height_133 ⟨rfl, id⟩ h
          · have h := h.2 c19
            refine v_bipush (v := -4) dX11_height_108 (by decide) ?_
            exact u_iret dX11_height_110 ⟨rfl, id⟩ h
        · have h := h.2 c11
          refine v_aload_n dX11_height_60 rfl rfl ?_
          refine u_getr fX11_7 dX11_height_61 sh_66 rfl (by decide) (rf_66_0 _) ?_
          refine v_iload dX11_height_64 rfl ?_
          obtain ⟨j28, e_j28, l_j28, h⟩ := h
          refine u_iald dX11_height_66 sh_67 (by decide) (by decide) e_j28 l_j28 ?_
          refine v_iconst (v := 1) dX11_height_67 (by decide) ?_
          refine v_iload_n dX11_height_68 rfl rfl ?_
          refine v_ishl dX11_height_69 ?_
          refine v_ior dX11_height_70 ?_
          refine v_goto (tgt := 87) dX11_height_71 (by decide) ?_
          refine v_topi (fun v29 e_v29 => ?_)
          have h := h v29 e_v29
          refine v_istore dX11_height_87 (by decide) rfl ?_
          refine v_ls (ls2 := [some (.ref 66), some (.int a1), some (.int a2), some (.int a3), some (.int a4), some (.int r7), some (.int v10), some (.int v29)]) rfl ?_
          refine v_iload dX11_height_89 rfl ?_
          refine u_callS [.int v29] mX11_bits sX11_bits lX11_97 dX11_height_91 ⟨rfl, rfl, id⟩ rfl rfl (Nat.le_of_ble_eq_true rfl) (Nat.le_of_ble_eq_true rfl) (v_X11_bits v29 _ _ h) ?_
          rintro _ τ31 ⟨r30, rfl, h⟩
          refine v_aload_n dX11_height_94 rfl rfl ?_
          refine u_getr fX11_7 dX11_height_95 sh_66 rfl (by decide) (rf_66_0 _) ?_
          refine v_iconst (v := 0) dX11_height_98 (by decide) ?_
          refine v_iload_n dX11_height_99 rfl rfl ?_
          refine v_iadd dX11_height_100 ?_
          obtain ⟨j32, e_j32, l_j32, h⟩ := h
          refine u_iald dX11_height_101 sh_67 (by decide) (by decide) e_j32 l_j32 ?_
          refine u_callS [.int (q_i τ31 67 j32)] mX11_most sX11_most lX11_100 dX11_height_102 ⟨rfl, rfl, id⟩ rfl rfl (Nat.le_of_ble_eq_true rfl) (Nat.le_of_ble_eq_true rfl) (v_X11_most (q_i τ31 67 j32) _ _ h) ?_
          rintro _ τ34 ⟨r33, rfl, h⟩
          refine v_icmp_le (tgt := 111) dX11_height_105 (by decide) (fun c35 => ?_) (fun c35 => ?_)
          · have h := h.1 c35
            refine v_aload_n dX11_height_111 rfl rfl ?_
            refine u_callV [] mX11_change iX11_change lX11_71 dX11_height_112 sh_66 rfl rfl (by decide) ⟨rfl, rfl, id⟩ rfl rfl (Nat.le_of_ble_eq_true rfl) (Nat.le_of_ble_eq_true rfl) (v_X11_change  _ _ h) ?_
            rintro _ τ37 ⟨rfl, h⟩
            refine v_aload_n dX11_height_115 rfl rfl ?_
            refine u_getr fX11_7 dX11_height_116 sh_66 rfl (by decide) (rf_66_0 _) ?_
            refine v_iload dX11_height_119 rfl ?_
            refine v_iload dX11_height_121 rfl ?_
            obtain ⟨j38, e_j38, l_j38, h⟩ := h
            refine u_iast dX11_height_123 sh_67 (by decide) (by decide) e_j38 l_j38 (fun τ39 e_τ39 => ?_)
            have h := h τ39 e_τ39
            refine v_aload_n dX11_height_124 rfl rfl ?_
            refine v_iload dX11_height_125 rfl ?_
            refine u_callS [.int v29] mX11_bits sX11_bits lX11_97 dX11_height_127 ⟨rfl, rfl, id⟩ rfl rfl (Nat.le_of_ble_eq_true rfl) (Nat.le_of_ble_eq_true rfl) (v_X11_bits v29 _ _ h) ?_
            rintro _ τ41 ⟨r40, rfl, h⟩
            refine u_callV [.int r40] mX11_well iX11_well lX11_74 dX11_height_130 sh_66 rfl rfl (by decide) ⟨rfl, rfl, id⟩ rfl rfl (Nat.le_of_ble_eq_true rfl) (Nat.le_of_ble_eq_true rfl) (v_X11_well r40 _ _ h) ?_
            rintro _ τ43 ⟨r42, rfl, h⟩
            exact u_iret dX11_height_133 ⟨rfl, id⟩ h
          · have h := h.2 c35
            refine v_bipush (v := -4) dX11_height_108 (by decide) ?_
            exact u_iret dX11_height_110 ⟨rfl, id⟩ h
      · have h := h.2 c9
        refine v_aload_n dX11_height_36 rfl rfl ?_
        refine v_iload dX11_height_37 rfl ?_
        refine u_callV [.int r7] mX11_met iX11_met lX11_80 dX11_height_39 sh_66 rfl rfl (by decide) ⟨rfl, rfl, id⟩ rfl rfl (Nat.le_of_ble_eq_true rfl) (Nat.le_of_ble_eq_true rfl) (v_X11_met r7 _ _ h) ?_
        rintro _ τ45 ⟨r44, rfl, h⟩
        exact u_iret dX11_height_42 ⟨rfl, id⟩ h
    · have h := h.2 c6
      refine v_bipush (v := -2) dX11_height_20 (by decide) ?_
      exact u_iret dX11_height_22 ⟨rfl, id⟩ h
def L_X11_heightAt_65  (f1 : Int32) (f2 : Int32) (f3 : Int32) (f4 : Int32) (f5 : Int32) (K : Int32 → Int32 → kT → Prop) (post : Int32 → kT → Prop) : Nat → Int32 → Int32 → kT → Prop
  | 0, _, _, _ => False
  | n + 1, x6, x7, τ => (((10 : Int32) ≤ x7 → K x6 x7 τ) ∧ (¬ (10 : Int32) ≤ x7 → ((f3 < 0 → K x6 x7 τ) ∧ (¬ f3 < 0 → ((¬ ((f5 >>> (x7 &&& 31)) &&& (1 : Int32)) = (1 : Int32) → (∀ v13 : Int32, v13 = x7 + (1 : Int32) → L_X11_heightAt_65 f1 f2 f3 f4 f5 K post n x6 v13 τ)) ∧ (((f5 >>> (x7 &&& 31)) &&& (1 : Int32)) = (1 : Int32) → ((¬ x6 = 0 → (∀ v15 : Int32, v15 = x6 + (-1 : Int32) → (∀ v16 : Int32, v16 = x7 + (1 : Int32) → L_X11_heightAt_65 f1 f2 f3 f4 f5 K post n v15 v16 τ))) ∧ (x6 = 0 → (T_X11_well x7 τ (fun r17 τ18 => post r17 τ18))))))))))
def T_X11_heightAt (a1 : Int32) (a2 : Int32) (a3 : Int32) (τ : kT) (post : Int32 → kT → Prop) : Prop := (T_X11_isCylinder a1 τ (fun r1 τ2 => ((¬ r1 = 0 → (T_X11_wrong a1 a2 τ2 (fun r4 τ5 => ((r4 ≤ 0 → (∃ j7 : Nat, (((400 : Int32) + ((18 : Int32) * a1)) + a2) = nI j7 ∧ j7 < 8530 ∧ (∀ v8 : Int32, v8 = (q_i τ5 67 j7) → ((¬ v8 = 0 → (∃ m19 : Nat, L_X11_heightAt_65  a1 a2 a3 r4 v8 (fun v20 v21 τ22 => (T_X11_met (2 : Int32) τ22 (fun r23 τ24 => post r23 τ24))) post m19 a3 (0 : Int32) τ5)) ∧ (v8 = 0 → (T_X11_met (1 : Int32) τ5 (fun r25 τ26 => post r25 τ26))))))) ∧ (¬ r4 ≤ 0 → (T_X11_met r4 τ5 (fun r27 τ28 => post r27 τ28))))))) ∧ (r1 = 0 → post (-2 : Int32) τ2))))
set_option maxRecDepth 100000 in
set_option maxHeartbeats 4000000 in
theorem l_X11_heightAt_65 {d : Nat}  (f1 : Int32) (f2 : Int32) (f3 : Int32) (f4 : Int32) (f5 : Int32) {K : Int32 → Int32 → kT → Prop} {post : Int32 → kT → Prop} (hK : ∀ (x6 : Int32) (x7 : Int32) (τ : kT), K x6 x7 τ → U yX11_heightAt cX11_heightAt 8 (some .int) (d + 2) kE0 108 [some (.ref 66), some (.int f1), some (.int f2), some (.int f3), some (.int f4), some (.int f5), some (.int x6), some (.int x7)] [] τ (k_pi post)) : ∀ (n : Nat) (x6 : Int32) (x7 : Int32) (τ : kT), L_X11_heightAt_65  f1 f2 f3 f4 f5 K post n x6 x7 τ → U yX11_heightAt cX11_heightAt 8 (some .int) (d + 2) kE0 65 [some (.ref 66), some (.int f1), some (.int f2), some (.int f3), some (.int f4), some (.int f5), some (.int x6), some (.int x7)] [] τ (k_pi post) := by
  intro n
  induction n with
  | zero => intro x6 x7 τ h; exact h.elim
  | succ n ih =>
    intro x6 x7 τ h
    unfold L_X11_heightAt_65 at h
    refine v_iload dX11_heightAt_65 rfl ?_
    refine v_bipush (v := 10) dX11_heightAt_67 (by decide) ?_
    refine v_icmp_ge (tgt := 108) dX11_heightAt_69 (by decide) (fun c10 => ?_) (fun c10 => ?_)
    · have h := h.1 c10
      exact hK x6 x7 _ h
    · have h := h.2 c10
      refine v_iload_n dX11_heightAt_72 rfl rfl ?_
      refine v_if_lt (tgt := 108) dX11_heightAt_73 (by decide) (fun c11 => ?_) (fun c11 => ?_)
      · have h := h.1 c11
        exact hK x6 x7 _ h
      · have h := h.2 c11
        refine v_iload dX11_heightAt_76 rfl ?_
        refine v_iload dX11_heightAt_78 rfl ?_
        refine v_ishr dX11_heightAt_80 ?_
        refine v_iconst (v := 1) dX11_heightAt_81 (by decide) ?_
        refine v_iand dX11_heightAt_82 ?_
        refine v_iconst (v := 1) dX11_heightAt_83 (by decide) ?_
        refine v_icmp_ne (tgt := 102) dX11_heightAt_84 (by decide) (fun c12 => ?_) (fun c12 => ?_)
        · have h := h.1 c12
          obtain ⟨v13, e_v13⟩ : ∃ z : Int32, z = x7 + (1 : Int32) := ⟨_, rfl⟩
          have h := h v13 e_v13
          refine v_iinc (v := v13) dX11_heightAt_102 rfl (by rw [e_v13]; rfl) (by decide) rfl ?_
          refine v_ls (ls2 := [some (.ref 66), some (.int f1), some (.int f2), some (.int f3), some (.int f4), some (.int f5), some (.int x6), some (.int v13)]) rfl ?_
          refine v_goto (tgt := 65) dX11_heightAt_105 (by decide) ?_
          exact ih x6 v13 _ h
        · have h := h.2 c12
          refine v_iload dX11_heightAt_87 rfl ?_
          refine v_if_ne (tgt := 99) dX11_heightAt_89 (by decide) (fun c14 => ?_) (fun c14 => ?_)
          · have h := h.1 c14
            obtain ⟨v15, e_v15⟩ : ∃ z : Int32, z = x6 + (-1 : Int32) := ⟨_, rfl⟩
            have h := h v15 e_v15
            refine v_iinc (v := v15) dX11_heightAt_99 rfl (by rw [e_v15]; rfl) (by decide) rfl ?_
            refine v_ls (ls2 := [some (.ref 66), some (.int f1), some (.int f2), some (.int f3), some (.int f4), some (.int f5), some (.int v15), some (.int x7)]) rfl ?_
            obtain ⟨v16, e_v16⟩ : ∃ z : Int32, z = x7 + (1 : Int32) := ⟨_, rfl⟩
            have h := h v16 e_v16
            refine v_iinc (v := v16) dX11_heightAt_102 rfl (by rw [e_v16]; rfl) (by decide) rfl ?_
            refine v_ls (ls2 := [some (.ref 66), some (.int f1), some (.int f2), some (.int f3), some (.int f4), some (.int f5), some (.int v15), some (.int v16)]) rfl ?_
            refine v_goto (tgt := 65) dX11_heightAt_105 (by decide) ?_
            exact ih v15 v16 _ h
          · have h := h.2 c14
            refine v_aload_n dX11_heightAt_92 rfl rfl ?_
            refine v_iload dX11_heightAt_93 rfl ?_
            refine u_callV [.int x7] mX11_well iX11_well lX11_74 dX11_heightAt_95 sh_66 rfl rfl (by decide) ⟨rfl, rfl, id⟩ rfl rfl (Nat.le_of_ble_eq_true rfl) (Nat.le_of_ble_eq_true rfl) (v_X11_well x7 _ _ h) ?_
            rintro _ τ18 ⟨r17, rfl, h⟩
            exact u_iret dX11_heightAt_98 ⟨rfl, id⟩ h
set_option maxRecDepth 100000 in
set_option maxHeartbeats 4000000 in
theorem v_X11_heightAt {d : Nat}  (a1 : Int32) (a2 : Int32) (a3 : Int32) (τ : kT) (post : Int32 → kT → Prop) (h : T_X11_heightAt  a1 a2 a3 τ post) : U yX11_heightAt cX11_heightAt 8 (some .int) (d + 2) kE0 0 [some (.ref 66), some (.int a1), some (.int a2), some (.int a3), none, none, none, none] [] τ (k_pi post) := by
  unfold T_X11_heightAt at h
  refine v_aload_n dX11_heightAt_0 rfl rfl ?_
  refine v_iload_n dX11_heightAt_1 rfl rfl ?_
  refine u_callV [.int a1] mX11_isCylinder iX11_isCylinder lX11_87 dX11_heightAt_2 sh_66 rfl rfl (by decide) ⟨rfl, rfl, id⟩ rfl rfl (Nat.le_of_ble_eq_true rfl) (Nat.le_of_ble_eq_true rfl) (v_X11_isCylinder a1 _ _ h) ?_
  rintro _ τ2 ⟨r1, rfl, h⟩
  refine v_if_ne (tgt := 11) dX11_heightAt_5 (by decide) (fun c3 => ?_) (fun c3 => ?_)
  · have h := h.1 c3
    refine v_aload_n dX11_heightAt_11 rfl rfl ?_
    refine v_iload_n dX11_heightAt_12 rfl rfl ?_
    refine v_iload_n dX11_heightAt_13 rfl rfl ?_
    refine u_callV [.int a1, .int a2] mX11_wrong iX11_wrong lX11_93 dX11_heightAt_14 sh_66 rfl rfl (by decide) ⟨rfl, rfl, id⟩ rfl rfl (Nat.le_of_ble_eq_true rfl) (Nat.le_of_ble_eq_true rfl) (v_X11_wrong a1 a2 _ _ h) ?_
    rintro _ τ5 ⟨r4, rfl, h⟩
    refine v_istore dX11_heightAt_17 (by decide) rfl ?_
    refine v_ls (ls2 := [some (.ref 66), some (.int a1), some (.int a2), some (.int a3), some (.int r4), none, none, none]) rfl ?_
    refine v_iload dX11_heightAt_19 rfl ?_
    refine v_if_le (tgt := 31) dX11_heightAt_21 (by decide) (fun c6 => ?_) (fun c6 => ?_)
    · have h := h.1 c6
      refine v_aload_n dX11_heightAt_31 rfl rfl ?_
      refine u_getr fX11_7 dX11_heightAt_32 sh_66 rfl (by decide) (rf_66_0 _) ?_
      refine v_sipush (v := 400) dX11_heightAt_35 (by decide) ?_
      refine v_bipush (v := 18) dX11_heightAt_38 (by decide) ?_
      refine v_iload_n dX11_heightAt_40 rfl rfl ?_
      refine v_imul dX11_heightAt_41 ?_
      refine v_iadd dX11_heightAt_42 ?_
      refine v_iload_n dX11_heightAt_43 rfl rfl ?_
      refine v_iadd dX11_heightAt_44 ?_
      obtain ⟨j7, e_j7, l_j7, h⟩ := h
      refine u_iald dX11_heightAt_45 sh_67 (by decide) (by decide) e_j7 l_j7 ?_
      refine v_topi (fun v8 e_v8 => ?_)
      have h := h v8 e_v8
      refine v_istore dX11_heightAt_46 (by decide) rfl ?_
      refine v_ls (ls2 := [some (.ref 66), some (.int a1), some (.int a2), some (.int a3), some (.int r4), some (.int v8), none, none]) rfl ?_
      refine v_iload dX11_heightAt_48 rfl ?_
      refine v_if_ne (tgt := 59) dX11_heightAt_50 (by decide) (fun c9 => ?_) (fun c9 => ?_)
      · have h := h.1 c9
        refine v_iload_n dX11_heightAt_59 rfl rfl ?_
        refine v_istore dX11_heightAt_60 (by decide) rfl ?_
        refine v_ls (ls2 := [some (.ref 66), some (.int a1), some (.int a2), some (.int a3), some (.int r4), some (.int v8), some (.int a3), none]) rfl ?_
        refine v_iconst (v := 0) dX11_heightAt_62 (by decide) ?_
        refine v_istore dX11_heightAt_63 (by decide) rfl ?_
        refine v_ls (ls2 := [some (.ref 66), some (.int a1), some (.int a2), some (.int a3), some (.int r4), some (.int v8), some (.int a3), some (.int (0 : Int32))]) rfl ?_
        obtain ⟨m19, h⟩ := h
        refine l_X11_heightAt_65  a1 a2 a3 r4 v8 (fun v20 v21 τ22 h => ?_) m19 a3 (0 : Int32) _ h
        refine v_aload_n dX11_heightAt_108 rfl rfl ?_
        refine v_iconst (v := 2) dX11_heightAt_109 (by decide) ?_
        refine u_callV [.int (2 : Int32)] mX11_met iX11_met lX11_80 dX11_heightAt_110 sh_66 rfl rfl (by decide) ⟨rfl, rfl, id⟩ rfl rfl (Nat.le_of_ble_eq_true rfl) (Nat.le_of_ble_eq_true rfl) (v_X11_met (2 : Int32) _ _ h) ?_
        rintro _ τ24 ⟨r23, rfl, h⟩
        exact u_iret dX11_heightAt_113 ⟨rfl, id⟩ h
      · have h := h.2 c9
        refine v_aload_n dX11_heightAt_53 rfl rfl ?_
        refine v_iconst (v := 1) dX11_heightAt_54 (by decide) ?_
        refine u_callV [.int (1 : Int32)] mX11_met iX11_met lX11_80 dX11_heightAt_55 sh_66 rfl rfl (by decide) ⟨rfl, rfl, id⟩ rfl rfl (Nat.le_of_ble_eq_true rfl) (Nat.le_of_ble_eq_true rfl) (v_X11_met (1 : Int32) _ _ h) ?_
        rintro _ τ26 ⟨r25, rfl, h⟩
        exact u_iret dX11_heightAt_58 ⟨rfl, id⟩ h
    · have h := h.2 c6
      refine v_aload_n dX11_heightAt_24 rfl rfl ?_
      refine v_iload dX11_heightAt_25 rfl ?_
      refine u_callV [.int r4] mX11_met iX11_met lX11_80 dX11_heightAt_27 sh_66 rfl rfl (by decide) ⟨rfl, rfl, id⟩ rfl rfl (Nat.le_of_ble_eq_true rfl) (Nat.le_of_ble_eq_true rfl) (v_X11_met r4 _ _ h) ?_
      rintro _ τ28 ⟨r27, rfl, h⟩
      exact u_iret dX11_heightAt_30 ⟨rfl, id⟩ h
  · have h := h.2 c3
    refine v_bipush (v := -2) dX11_heightAt_8 (by decide) ?_
    exact u_iret dX11_heightAt_10 ⟨rfl, id⟩ h
def L_X11_takeCore_55  (f1 : Int32) (f2 : Int32) (K : Int32 → kT → Prop) (post : Int32 → kT → Prop) : Nat → Int32 → kT → Prop
  | 0, _, _ => False
  | n + 1, x3, τ => (((18 : Int32) ≤ x3 → K x3 τ) ∧ (¬ (18 : Int32) ≤ x3 → (∃ j12 : Nat, (((400 : Int32) + ((18 : Int32) * f1)) + x3) = nI j12 ∧ j12 < 8530 ∧ (∃ j13 : Nat, ((8504 : Int32) + x3) = nI j13 ∧ j13 < 8530 ∧ (∀ τ14 : kT, τ14 = q_si τ 67 j13 (q_i τ 67 j12) → (∃ j15 : Nat, (((400 : Int32) + ((18 : Int32) * f1)) + x3) = nI j15 ∧ j15 < 8530 ∧ (∀ τ16 : kT, τ16 = q_si τ14 67 j15 (0 : Int32) → (∀ v17 : Int32, v17 = x3 + (1 : Int32) → L_X11_takeCore_55 f1 f2 K post n v17 τ16))))))))
def T_X11_takeCore (a1 : Int32) (τ : kT) (post : Int32 → kT → Prop) : Prop := (T_X11_isCylinder a1 τ (fun r1 τ2 => ((¬ r1 = 0 → (∃ j4 : Nat, ((0 : Int32) + a1) = nI j4 ∧ j4 < 8530 ∧ (((q_i τ2 67 j4) = (2 : Int32) → (∃ j6 : Nat, ((100 : Int32) + a1) = nI j6 ∧ j6 < 8530 ∧ (∀ v7 : Int32, v7 = (q_i τ2 67 j6) → ((0 ≤ v7 → (T_X11_change  τ2 (fun τ10 => (∃ m18 : Nat, L_X11_takeCore_55  a1 v7 (fun v19 τ20 => (∀ τ21 : kT, τ21 = q_si τ20 67 8528 v7 → (∃ j22 : Nat, ((100 : Int32) + a1) = nI j22 ∧ j22 < 8530 ∧ (∀ τ23 : kT, τ23 = q_si τ21 67 j22 (-1 : Int32) → (T_X11_well v7 τ23 (fun r24 τ25 => post r24 τ25)))))) post m18 (0 : Int32) τ10)))) ∧ (¬ 0 ≤ v7 → (T_X11_met (1 : Int32) τ2 (fun r26 τ27 => post r26 τ27))))))) ∧ (¬ (q_i τ2 67 j4) = (2 : Int32) → (T_X11_met (3 : Int32) τ2 (fun r28 τ29 => post r28 τ29)))))) ∧ (r1 = 0 → post (-2 : Int32) τ2))))
set_option maxRecDepth 100000 in
set_option maxHeartbeats 4000000 in
theorem l_X11_takeCore_55 {d : Nat}  (f1 : Int32) (f2 : Int32) {K : Int32 → kT → Prop} {post : Int32 → kT → Prop} (hK : ∀ (x3 : Int32) (τ : kT), K x3 τ → U yX11_takeCore cX11_takeCore 4 (some .int) (d + 2) kE0 108 [some (.ref 66), some (.int f1), some (.int f2), some (.int x3)] [] τ (k_pi post)) : ∀ (n : Nat) (x3 : Int32) (τ : kT), L_X11_takeCore_55  f1 f2 K post n x3 τ → U yX11_takeCore cX11_takeCore 4 (some .int) (d + 2) kE0 55 [some (.ref 66), some (.int f1), some (.int f2), some (.int x3)] [] τ (k_pi post) := by
  intro n
  induction n with
  | zero => intro x3 τ h; exact h.elim
  | succ n ih =>
    intro x3 τ h
    unfold L_X11_takeCore_55 at h
    refine v_iload_n dX11_takeCore_55 rfl rfl ?_
    refine v_bipush (v := 18) dX11_takeCore_56 (by decide) ?_
    refine v_icmp_ge (tgt := 108) dX11_takeCore_58 (by decide) (fun c11 => ?_) (fun c11 => ?_)
    · have h := h.1 c11
      exact hK x3 _ h
    · have h := h.2 c11
      refine v_aload_n dX11_takeCore_61 rfl rfl ?_
      refine u_getr fX11_7 dX11_takeCore_62 sh_66 rfl (by decide) (rf_66_0 _) ?_
      refine v_sipush (v := 8504) dX11_takeCore_65 (by decide) ?_
      refine v_iload_n dX11_takeCore_68 rfl rfl ?_
      refine v_iadd dX11_takeCore_69 ?_
      refine v_aload_n dX11_takeCore_70 rfl rfl ?_
      refine u_getr fX11_7 dX11_takeCore_71 sh_66 rfl (by decide) (rf_66_0 _) ?_
      refine v_sipush (v := 400) dX11_takeCore_74 (by decide) ?_
      refine v_bipush (v := 18) dX11_takeCore_77 (by decide) ?_
      refine v_iload_n dX11_takeCore_79 rfl rfl ?_
      refine v_imul dX11_takeCore_80 ?_
      refine v_iadd dX11_takeCore_81 ?_
      refine v_iload_n dX11_takeCore_82 rfl rfl ?_
      refine v_iadd dX11_takeCore_83 ?_
      obtain ⟨j12, e_j12, l_j12, h⟩ := h
      refine u_iald dX11_takeCore_84 sh_67 (by decide) (by decide) e_j12 l_j12 ?_
      obtain ⟨j13, e_j13, l_j13, h⟩ := h
      refine u_iast dX11_takeCore_85 sh_67 (by decide) (by decide) e_j13 l_j13 (fun τ14 e_τ14 => ?_)
      have h := h τ14 e_τ14
      refine v_aload_n dX11_takeCore_86 rfl rfl ?_
      refine u_getr fX11_7 dX11_takeCore_87 sh_66 rfl (by decide) (rf_66_0 _) ?_
      refine v_sipush (v := 400) dX11_takeCore_90 (by decide) ?_
      refine v_bipush (v := 18) dX11_takeCore_93 (by decide) ?_
      refine v_iload_n dX11_takeCore_95 rfl rfl ?_
      refine v_imul dX11_takeCore_96 ?_
      refine v_iadd dX11_takeCore_97 ?_
      refine v_iload_n dX11_takeCore_98 rfl rfl ?_
      refine v_iadd dX11_takeCore_99 ?_
      refine v_iconst (v := 0) dX11_takeCore_100 (by decide) ?_
      obtain ⟨j15, e_j15, l_j15, h⟩ := h
      refine u_iast dX11_takeCore_101 sh_67 (by decide) (by decide) e_j15 l_j15 (fun τ16 e_τ16 => ?_)
      have h := h τ16 e_τ16
      obtain ⟨v17, e_v17⟩ : ∃ z : Int32, z = x3 + (1 : Int32) := ⟨_, rfl⟩
      have h := h v17 e_v17
      refine v_iinc (v := v17) dX11_takeCore_102 rfl (by rw [e_v17]; rfl) (by decide) rfl ?_
      refine v_ls (ls2 := [some (.ref 66), some (.int f1), some (.int f2), some (.int v17)]) rfl ?_
      refine v_goto (tgt := 55) dX11_takeCore_105 (by decide) ?_
      exact ih v17 _ h
set_option maxRecDepth 100000 in
set_option maxHeartbeats 4000000 in
theorem v_X11_takeCore {d : Nat}  (a1 : Int32) (τ : kT) (post : Int32 → kT → Prop) (h : T_X11_takeCore  a1 τ post) : U yX11_takeCore cX11_takeCore 4 (some .int) (d + 2) kE0 0 [some (.ref 66), some (.int a1), none, none] [] τ (k_pi post) := by
  unfold T_X11_takeCore at h
  refine v_aload_n dX11_takeCore_0 rfl rfl ?_
  refine v_iload_n dX11_takeCore_1 rfl rfl ?_
  refine u_callV [.int a1] mX11_isCylinder iX11_isCylinder lX11_87 dX11_takeCore_2 sh_66 rfl rfl (by decide) ⟨rfl, rfl, id⟩ rfl rfl (Nat.le_of_ble_eq_true rfl) (Nat.le_of_ble_eq_true rfl) (v_X11_isCylinder a1 _ _ h) ?_
  rintro _ τ2 ⟨r1, rfl, h⟩
  refine v_if_ne (tgt := 11) dX11_takeCore_5 (by decide) (fun c3 => ?_) (fun c3 => ?_)
  · have h := h.1 c3
    refine v_aload_n dX11_takeCore_11 rfl rfl ?_
    refine u_getr fX11_7 dX11_takeCore_12 sh_66 rfl (by decide) (rf_66_0 _) ?_
    refine v_iconst (v := 0) dX11_takeCore_15 (by decide) ?_
    refine v_iload_n dX11_takeCore_16 rfl rfl ?_
    refine v_iadd dX11_takeCore_17 ?_
    obtain ⟨j4, e_j4, l_j4, h⟩ := h
    refine u_iald dX11_takeCore_18 sh_67 (by decide) (by decide) e_j4 l_j4 ?_
    refine v_iconst (v := 2) dX11_takeCore_19 (by decide) ?_
    refine v_icmp_eq (tgt := 29) dX11_takeCore_20 (by decide) (fun c5 => ?_) (fun c5 => ?_)
    · have h := h.1 c5
      refine v_aload_n dX11_takeCore_29 rfl rfl ?_
      refine u_getr fX11_7 dX11_takeCore_30 sh_66 rfl (by decide) (rf_66_0 _) ?_
      refine v_bipush (v := 100) dX11_takeCore_33 (by decide) ?_
      refine v_iload_n dX11_takeCore_35 rfl rfl ?_
      refine v_iadd dX11_takeCore_36 ?_
      obtain ⟨j6, e_j6, l_j6, h⟩ := h
      refine u_iald dX11_takeCore_37 sh_67 (by decide) (by decide) e_j6 l_j6 ?_
      refine v_topi (fun v7 e_v7 => ?_)
      have h := h v7 e_v7
      refine v_istore_n dX11_takeCore_38 rfl (by decide) rfl ?_
      refine v_ls (ls2 := [some (.ref 66), some (.int a1), some (.int v7), none]) rfl ?_
      refine v_iload_n dX11_takeCore_39 rfl rfl ?_
      refine v_if_ge (tgt := 49) dX11_takeCore_40 (by decide) (fun c8 => ?_) (fun c8 => ?_)
      · have h := h.1 c8
        refine v_aload_n dX11_takeCore_49 rfl rfl ?_
        refine u_callV [] mX11_change iX11_change lX11_71 dX11_takeCore_50 sh_66 rfl rfl (by decide) ⟨rfl, rfl, id⟩ rfl rfl (Nat.le_of_ble_eq_true rfl) (Nat.le_of_ble_eq_true rfl) (v_X11_change  _ _ h) ?_
        rintro _ τ10 ⟨rfl, h⟩
        refine v_iconst (v := 0) dX11_takeCore_53 (by decide) ?_
        refine v_istore_n dX11_takeCore_54 rfl (by decide) rfl ?_
        refine v_ls (ls2 := [some (.ref 66), some (.int a1), some (.int v7), some (.int (0 : Int32))]) rfl ?_
        obtain ⟨m18, h⟩ := h
        refine l_X11_takeCore_55  a1 v7 (fun v19 τ20 h => ?_) m18 (0 : Int32) _ h
        refine v_aload_n dX11_takeCore_108 rfl rfl ?_
        refine u_getr fX11_7 dX11_takeCore_109 sh_66 rfl (by decide) (rf_66_0 _) ?_
        refine v_sipush (v := 8528) dX11_takeCore_112 (by decide) ?_
        refine v_iload_n dX11_takeCore_115 rfl rfl ?_
        refine u_iast dX11_takeCore_116 sh_67 (by decide) (by decide) rfl (by decide) (fun τ21 e_τ21 => ?_)
        have h := h τ21 e_τ21
        refine v_aload_n dX11_takeCore_117 rfl rfl ?_
        refine u_getr fX11_7 dX11_takeCore_118 sh_66 rfl (by decide) (rf_66_0 _) ?_
        refine v_bipush (v := 100) dX11_takeCore_121 (by decide) ?_
        refine v_iload_n dX11_takeCore_123 rfl rfl ?_
        refine v_iadd dX11_takeCore_124 ?_
        refine v_iconst (v := -1) dX11_takeCore_125 (by decide) ?_
        obtain ⟨j22, e_j22, l_j22, h⟩ := h
        refine u_iast dX11_takeCore_126 sh_67 (by decide) (by decide) e_j22 l_j22 (fun τ23 e_τ23 => ?_)
        have h := h τ23 e_τ23
        refine v_aload_n dX11_takeCore_127 rfl rfl ?_
        refine v_iload_n dX11_takeCore_128 rfl rfl ?_
        refine u_callV [.int v7] mX11_well iX11_well lX11_74 dX11_takeCore_129 sh_66 rfl rfl (by decide) ⟨rfl, rfl, id⟩ rfl rfl (Nat.le_of_ble_eq_true rfl) (Nat.le_of_ble_eq_true rfl) (v_X11_well v7 _ _ h) ?_
        rintro _ τ25 ⟨r24, rfl, h⟩
        exact u_iret dX11_takeCore_132 ⟨rfl, id⟩ h
      · have h := h.2 c8
        refine v_aload_n dX11_takeCore_43 rfl rfl ?_
        refine v_iconst (v := 1) dX11_takeCore_44 (by decide) ?_
        refine u_callV [.int (1 : Int32)] mX11_met iX11_met lX11_80 dX11_takeCore_45 sh_66 rfl rfl (by decide) ⟨rfl, rfl, id⟩ rfl rfl (Nat.le_of_ble_eq_true rfl) (Nat.le_of_ble_eq_true rfl) (v_X11_met (1 : Int32) _ _ h) ?_
        rintro _ τ27 ⟨r26, rfl, h⟩
        exact u_iret dX11_takeCore_48 ⟨rfl, id⟩ h
    · have h := h.2 c5
      refine v_aload_n dX11_takeCore_23 rfl rfl ?_
      refine v_iconst (v := 3) dX11_takeCore_24 (by decide) ?_
      refine u_callV [.int (3 : Int32)] mX11_met iX11_met lX11_80 dX11_takeCore_25 sh_66 rfl rfl (by decide) ⟨rfl, rfl, id⟩ rfl rfl (Nat.le_of_ble_eq_true rfl) (Nat.le_of_ble_eq_true rfl) (v_X11_met (3 : Int32) _ _ h) ?_
      rintro _ τ29 ⟨r28, rfl, h⟩
      exact u_iret dX11_takeCore_28 ⟨rfl, id⟩ h
  · have h := h.2 c3
    refine v_bipush (v := -2) dX11_takeCore_8 (by decide) ?_
    exact u_iret dX11_takeCore_10 ⟨rfl, id⟩ h
def L_X11_putCore_69  (f1 : Int32) (f2 : Int32) (K : Int32 → kT → Prop) (post : Int32 → kT → Prop) : Nat → Int32 → kT → Prop
  | 0, _, _ => False
  | n + 1, x3, τ => (((18 : Int32) ≤ x3 → K x3 τ) ∧ (¬ (18 : Int32) ≤ x3 → (∃ j13 : Nat, ((8504 : Int32) + x3) = nI j13 ∧ j13 < 8530 ∧ (∃ j14 : Nat, (((400 : Int32) + ((18 : Int32) * f1)) + x3) = nI j14 ∧ j14 < 8530 ∧ (∀ τ15 : kT, τ15 = q_si τ 67 j14 (q_i τ 67 j13) → (∀ v16 : Int32, v16 = x3 + (1 : Int32) → L_X11_putCore_69 f1 f2 K post n v16 τ15))))))
def T_X11_putCore (a1 : Int32) (τ : kT) (post : Int32 → kT → Prop) : Prop := (T_X11_isCylinder a1 τ (fun r1 τ2 => ((¬ r1 = 0 → (∃ j4 : Nat, ((0 : Int32) + a1) = nI j4 ∧ j4 < 8530 ∧ (((q_i τ2 67 j4) = (2 : Int32) → (∃ j6 : Nat, ((100 : Int32) + a1) = nI j6 ∧ j6 < 8530 ∧ (((q_i τ2 67 j6) < 0 → (∀ v8 : Int32, v8 = (q_i τ2 67 8528) → ((0 ≤ v8 → (T_X11_change  τ2 (fun τ11 => (∃ m17 : Nat, L_X11_putCore_69  a1 v8 (fun v18 τ19 => (∃ j20 : Nat, ((100 : Int32) + a1) = nI j20 ∧ j20 < 8530 ∧ (∀ τ21 : kT, τ21 = q_si τ19 67 j20 v8 → (∀ τ22 : kT, τ22 = q_si τ21 67 8528 (-1 : Int32) → (T_X11_well v8 τ22 (fun r23 τ24 => post r23 τ24)))))) post m17 (0 : Int32) τ11)))) ∧ (¬ 0 ≤ v8 → (T_X11_met (1 : Int32) τ2 (fun r25 τ26 => post r25 τ26)))))) ∧ (¬ (q_i τ2 67 j6) < 0 → post (-3 : Int32) τ2)))) ∧ (¬ (q_i τ2 67 j4) = (2 : Int32) → (T_X11_met (3 : Int32) τ2 (fun r27 τ28 => post r27 τ28)))))) ∧ (r1 = 0 → post (-2 : Int32) τ2))))
set_option maxRecDepth 100000 in
set_option maxHeartbeats 4000000 in
theorem l_X11_putCore_69 {d : Nat}  (f1 : Int32) (f2 : Int32) {K : Int32 → kT → Prop} {post : Int32 → kT → Prop} (hK : ∀ (x3 : Int32) (τ : kT), K x3 τ → U yX11_putCore cX11_putCore 4 (some .int) (d + 2) kE0 106 [some (.ref 66), some (.int f1), some (.int f2), some (.int x3)] [] τ (k_pi post)) : ∀ (n : Nat) (x3 : Int32) (τ : kT), L_X11_putCore_69  f1 f2 K post n x3 τ → U yX11_putCore cX11_putCore 4 (some .int) (d + 2) kE0 69 [some (.ref 66), some (.int f1), some (.int f2), some (.int x3)] [] τ (k_pi post) := by
  intro n
  induction n with
  | zero => intro x3 τ h; exact h.elim
  | succ n ih =>
    intro x3 τ h
    unfold L_X11_putCore_69 at h
    refine v_iload_n dX11_putCore_69 rfl rfl ?_
    refine v_bipush (v := 18) dX11_putCore_70 (by decide) ?_
    refine v_icmp_ge (tgt := 106) dX11_putCore_72 (by decide) (fun c12 => ?_) (fun c12 => ?_)
    · have h := h.1 c12
      exact hK x3 _ h
    · have h := h.2 c12
      refine v_aload_n dX11_putCore_75 rfl rfl ?_
      refine u_getr fX11_7 dX11_putCore_76 sh_66 rfl (by decide) (rf_66_0 _) ?_
      refine v_sipush (v := 400) dX11_putCore_79 (by decide) ?_
      refine v_bipush (v := 18) dX11_putCore_82 (by decide) ?_
      refine v_iload_n dX11_putCore_84 rfl rfl ?_
      refine v_imul dX11_putCore_85 ?_
      refine v_iadd dX11_putCore_86 ?_
      refine v_iload_n dX11_putCore_87 rfl rfl ?_
      refine v_iadd dX11_putCore_88 ?_
      refine v_aload_n dX11_putCore_89 rfl rfl ?_
      refine u_getr fX11_7 dX11_putCore_90 sh_66 rfl (by decide) (rf_66_0 _) ?_
      refine v_sipush (v := 8504) dX11_putCore_93 (by decide) ?_
      refine v_iload_n dX11_putCore_96 rfl rfl ?_
      refine v_iadd dX11_putCore_97 ?_
      obtain ⟨j13, e_j13, l_j13, h⟩ := h
      refine u_iald dX11_putCore_98 sh_67 (by decide) (by decide) e_j13 l_j13 ?_
      obtain ⟨j14, e_j14, l_j14, h⟩ := h
      refine u_iast dX11_putCore_99 sh_67 (by decide) (by decide) e_j14 l_j14 (fun τ15 e_τ15 => ?_)
      have h := h τ15 e_τ15
      obtain ⟨v16, e_v16⟩ : ∃ z : Int32, z = x3 + (1 : Int32) := ⟨_, rfl⟩
      have h := h v16 e_v16
      refine v_iinc (v := v16) dX11_putCore_100 rfl (by rw [e_v16]; rfl) (by decide) rfl ?_
      refine v_ls (ls2 := [some (.ref 66), some (.int f1), some (.int f2), some (.int v16)]) rfl ?_
      refine v_goto (tgt := 69) dX11_putCore_103 (by decide) ?_
      exact ih v16 _ h
set_option maxRecDepth 100000 in
set_option maxHeartbeats 4000000 in
theorem v_X11_putCore {d : Nat}  (a1 : Int32) (τ : kT) (post : Int32 → kT → Prop) (h : T_X11_putCore  a1 τ post) : U yX11_putCore cX11_putCore 4 (some .int) (d + 2) kE0 0 [some (.ref 66), some (.int a1), none, none] [] τ (k_pi post) := by
  unfold T_X11_putCore at h
  refine v_aload_n dX11_putCore_0 rfl rfl ?_
  refine v_iload_n dX11_putCore_1 rfl rfl ?_
  refine u_callV [.int a1] mX11_isCylinder iX11_isCylinder lX11_87 dX11_putCore_2 sh_66 rfl rfl (by decide) ⟨rfl, rfl, id⟩ rfl rfl (Nat.le_of_ble_eq_true rfl) (Nat.le_of_ble_eq_true rfl) (v_X11_isCylinder a1 _ _ h) ?_
  rintro _ τ2 ⟨r1, rfl, h⟩
  refine v_if_ne (tgt := 11) dX11_putCore_5 (by decide) (fun c3 => ?_) (fun c3 => ?_)
  · have h := h.1 c3
    refine v_aload_n dX11_putCore_11 rfl rfl ?_
    refine u_getr fX11_7 dX11_putCore_12 sh_66 rfl (by decide) (rf_66_0 _) ?_
    refine v_iconst (v := 0) dX11_putCore_15 (by decide) ?_
    refine v_iload_n dX11_putCore_16 rfl rfl ?_
    refine v_iadd dX11_putCore_17 ?_
    obtain ⟨j4, e_j4, l_j4, h⟩ := h
    refine u_iald dX11_putCore_18 sh_67 (by decide) (by decide) e_j4 l_j4 ?_
    refine v_iconst (v := 2) dX11_putCore_19 (by decide) ?_
    refine v_icmp_eq (tgt := 29) dX11_putCore_20 (by decide) (fun c5 => ?_) (fun c5 => ?_)
    · have h := h.1 c5
      refine v_aload_n dX11_putCore_29 rfl rfl ?_
      refine u_getr fX11_7 dX11_putCore_30 sh_66 rfl (by decide) (rf_66_0 _) ?_
      refine v_bipush (v := 100) dX11_putCore_33 (by decide) ?_
      refine v_iload_n dX11_putCore_35 rfl rfl ?_
      refine v_iadd dX11_putCore_36 ?_
      obtain ⟨j6, e_j6, l_j6, h⟩ := h
      refine u_iald dX11_putCore_37 sh_67 (by decide) (by decide) e_j6 l_j6 ?_
      refine v_if_lt (tgt := 44) dX11_putCore_38 (by decide) (fun c7 => ?_) (fun c7 => ?_)
      · have h := h.1 c7
        refine v_aload_n dX11_putCore_44 rfl rfl ?_
        refine u_getr fX11_7 dX11_putCore_45 sh_66 rfl (by decide) (rf_66_0 _) ?_
        refine v_sipush (v := 8528) dX11_putCore_48 (by decide) ?_
        refine u_iald dX11_putCore_51 sh_67 (by decide) (by decide) rfl (by decide) ?_
        refine v_topi (fun v8 e_v8 => ?_)
        have h := h v8 e_v8
        refine v_istore_n dX11_putCore_52 rfl (by decide) rfl ?_
        refine v_ls (ls2 := [some (.ref 66), some (.int a1), some (.int v8), none]) rfl ?_
        refine v_iload_n dX11_putCore_53 rfl rfl ?_
        refine v_if_ge (tgt := 63) dX11_putCore_54 (by decide) (fun c9 => ?_) (fun c9 => ?_)
        · have h := h.1 c9
          refine v_aload_n dX11_putCore_63 rfl rfl ?_
          refine u_callV [] mX11_change iX11_change lX11_71 dX11_putCore_64 sh_66 rfl rfl (by decide) ⟨rfl, rfl, id⟩ rfl rfl (Nat.le_of_ble_eq_true rfl) (Nat.le_of_ble_eq_true rfl) (v_X11_change  _ _ h) ?_
          rintro _ τ11 ⟨rfl, h⟩
          refine v_iconst (v := 0) dX11_putCore_67 (by decide) ?_
          refine v_istore_n dX11_putCore_68 rfl (by decide) rfl ?_
          refine v_ls (ls2 := [some (.ref 66), some (.int a1), some (.int v8), some (.int (0 : Int32))]) rfl ?_
          obtain ⟨m17, h⟩ := h
          refine l_X11_putCore_69  a1 v8 (fun v18 τ19 h => ?_) m17 (0 : Int32) _ h
          refine v_aload_n dX11_putCore_106 rfl rfl ?_
          refine u_getr fX11_7 dX11_putCore_107 sh_66 rfl (by decide) (rf_66_0 _) ?_
          refine v_bipush (v := 100) dX11_putCore_110 (by decide) ?_
          refine v_iload_n dX11_putCore_112 rfl rfl ?_
          refine v_iadd dX11_putCore_113 ?_
          refine v_iload_n dX11_putCore_114 rfl rfl ?_
          obtain ⟨j20, e_j20, l_j20, h⟩ := h
          refine u_iast dX11_putCore_115 sh_67 (by decide) (by decide) e_j20 l_j20 (fun τ21 e_τ21 => ?_)
          have h := h τ21 e_τ21
          refine v_aload_n dX11_putCore_116 rfl rfl ?_
          refine u_getr fX11_7 dX11_putCore_117 sh_66 rfl (by decide) (rf_66_0 _) ?_
          refine v_sipush (v := 8528) dX11_putCore_120 (by decide) ?_
          refine v_iconst (v := -1) dX11_putCore_123 (by decide) ?_
          refine u_iast dX11_putCore_124 sh_67 (by decide) (by decide) rfl (by decide) (fun τ22 e_τ22 => ?_)
          have h := h τ22 e_τ22
          refine v_aload_n dX11_putCore_125 rfl rfl ?_
          refine v_iload_n dX11_putCore_126 rfl rfl ?_
          refine u_callV [.int v8] mX11_well iX11_well lX11_74 dX11_putCore_127 sh_66 rfl rfl (by decide) ⟨rfl, rfl, id⟩ rfl rfl (Nat.le_of_ble_eq_true rfl) (Nat.le_of_ble_eq_true rfl) (v_X11_well v8 _ _ h) ?_
          rintro _ τ24 ⟨r23, rfl, h⟩
          exact u_iret dX11_putCore_130 ⟨rfl, id⟩ h
        · have h := h.2 c9
          refine v_aload_n dX11_putCore_57 rfl rfl ?_
          refine v_iconst (v := 1) dX11_putCore_58 (by decide) ?_
          refine u_callV [.int (1 : Int32)] mX11_met iX11_met lX11_80 dX11_putCore_59 sh_66 rfl rfl (by decide) ⟨rfl, rfl, id⟩ rfl rfl (Nat.le_of_ble_eq_true rfl) (Nat.le_of_ble_eq_true rfl) (v_X11_met (1 : Int32) _ _ h) ?_
          rintro _ τ26 ⟨r25, rfl, h⟩
          exact u_iret dX11_putCore_62 ⟨rfl, id⟩ h
      · have h := h.2 c7
        refine v_bipush (v := -3) dX11_putCore_41 (by decide) ?_
        exact u_iret dX11_putCore_43 ⟨rfl, id⟩ h
    · have h := h.2 c5
      refine v_aload_n dX11_putCore_23 rfl rfl ?_
      refine v_iconst (v := 3) dX11_putCore_24 (by decide) ?_
      refine u_callV [.int (3 : Int32)] mX11_met iX11_met lX11_80 dX11_putCore_25 sh_66 rfl rfl (by decide) ⟨rfl, rfl, id⟩ rfl rfl (Nat.le_of_ble_eq_true rfl) (Nat.le_of_ble_eq_true rfl) (v_X11_met (3 : Int32) _ _ h) ?_
      rintro _ τ28 ⟨r27, rfl, h⟩
      exact u_iret dX11_putCore_28 ⟨rfl, id⟩ h
  · have h := h.2 c3
    refine v_bipush (v := -2) dX11_putCore_8 (by decide) ?_
    exact u_iret dX11_putCore_10 ⟨rfl, id⟩ h
def T_X11_kind (a1 : Int32) (τ : kT) (post : Int32 → kT → Prop) : Prop := (T_X11_isCylinder a1 τ (fun r1 τ2 => ((r1 = 0 → post (-2 : Int32) τ2) ∧ (¬ r1 = 0 → (∃ j4 : Nat, ((0 : Int32) + a1) = nI j4 ∧ j4 < 8530 ∧ post (q_i τ2 67 j4) τ2)))))
set_option maxRecDepth 100000 in
set_option maxHeartbeats 4000000 in
theorem v_X11_kind {d : Nat}  (a1 : Int32) (τ : kT) (post : Int32 → kT → Prop) (h : T_X11_kind  a1 τ post) : U yX11_kind cX11_kind 2 (some .int) (d + 2) kE0 0 [some (.ref 66), some (.int a1)] [] τ (k_pi post) := by
  unfold T_X11_kind at h
  refine v_aload_n dX11_kind_0 rfl rfl ?_
  refine v_iload_n dX11_kind_1 rfl rfl ?_
  refine u_callV [.int a1] mX11_isCylinder iX11_isCylinder lX11_87 dX11_kind_2 sh_66 rfl rfl (by decide) ⟨rfl, rfl, id⟩ rfl rfl (Nat.le_of_ble_eq_true rfl) (Nat.le_of_ble_eq_true rfl) (v_X11_isCylinder a1 _ _ h) ?_
  rintro _ τ2 ⟨r1, rfl, h⟩
  refine v_if_eq (tgt := 19) dX11_kind_5 (by decide) (fun c3 => ?_) (fun c3 => ?_)
  · have h := h.1 c3
    refine v_bipush (v := -2) dX11_kind_19 (by decide) ?_
    exact u_iret dX11_kind_21 ⟨rfl, id⟩ h
  · have h := h.2 c3
    refine v_aload_n dX11_kind_8 rfl rfl ?_
    refine u_getr fX11_7 dX11_kind_9 sh_66 rfl (by decide) (rf_66_0 _) ?_
    refine v_iconst (v := 0) dX11_kind_12 (by decide) ?_
    refine v_iload_n dX11_kind_13 rfl rfl ?_
    refine v_iadd dX11_kind_14 ?_
    obtain ⟨j4, e_j4, l_j4, h⟩ := h
    refine u_iald dX11_kind_15 sh_67 (by decide) (by decide) e_j4 l_j4 ?_
    refine v_goto (tgt := 21) dX11_kind_16 (by decide) ?_
    exact u_iret dX11_kind_21 ⟨rfl, id⟩ h
def T_X11_chambers (a1 : Int32) (τ : kT) (post : Int32 → kT → Prop) : Prop := (T_X11_isCylinder a1 τ (fun r1 τ2 => ((¬ r1 = 0 → (∃ j4 : Nat, ((100 : Int32) + a1) = nI j4 ∧ j4 < 8530 ∧ (∀ v5 : Int32, v5 = (q_i τ2 67 j4) → (∃ j6 : Nat, ((0 : Int32) + a1) = nI j6 ∧ j6 < 8530 ∧ ((¬ (q_i τ2 67 j6) = (4 : Int32) → ((0 ≤ v5 → (T_X11_well v5 τ2 (fun r9 τ10 => post r9 τ10))) ∧ (¬ 0 ≤ v5 → (T_X11_met (1 : Int32) τ2 (fun r11 τ12 => post r11 τ12))))) ∧ ((q_i τ2 67 j6) = (4 : Int32) → (T_X11_met (3 : Int32) τ2 (fun r13 τ14 => post r13 τ14)))))))) ∧ (r1 = 0 → post (-2 : Int32) τ2))))
set_option maxRecDepth 100000 in
set_option maxHeartbeats 4000000 in
theorem v_X11_chambers {d : Nat}  (a1 : Int32) (τ : kT) (post : Int32 → kT → Prop) (h : T_X11_chambers  a1 τ post) : U yX11_chambers cX11_chambers 3 (some .int) (d + 2) kE0 0 [some (.ref 66), some (.int a1), none] [] τ (k_pi post) := by
  unfold T_X11_chambers at h
  refine v_aload_n dX11_chambers_0 rfl rfl ?_
  refine v_iload_n dX11_chambers_1 rfl rfl ?_
  refine u_callV [.int a1] mX11_isCylinder iX11_isCylinder lX11_87 dX11_chambers_2 sh_66 rfl rfl (by decide) ⟨rfl, rfl, id⟩ rfl rfl (Nat.le_of_ble_eq_true rfl) (Nat.le_of_ble_eq_true rfl) (v_X11_isCylinder a1 _ _ h) ?_
  rintro _ τ2 ⟨r1, rfl, h⟩
  refine v_if_ne (tgt := 11) dX11_chambers_5 (by decide) (fun c3 => ?_) (fun c3 => ?_)
  · have h := h.1 c3
    refine v_aload_n dX11_chambers_11 rfl rfl ?_
    refine u_getr fX11_7 dX11_chambers_12 sh_66 rfl (by decide) (rf_66_0 _) ?_
    refine v_bipush (v := 100) dX11_chambers_15 (by decide) ?_
    refine v_iload_n dX11_chambers_17 rfl rfl ?_
    refine v_iadd dX11_chambers_18 ?_
    obtain ⟨j4, e_j4, l_j4, h⟩ := h
    refine u_iald dX11_chambers_19 sh_67 (by decide) (by decide) e_j4 l_j4 ?_
    refine v_topi (fun v5 e_v5 => ?_)
    have h := h v5 e_v5
    refine v_istore_n dX11_chambers_20 rfl (by decide) rfl ?_
    refine v_ls (ls2 := [some (.ref 66), some (.int a1), some (.int v5)]) rfl ?_
    refine v_aload_n dX11_chambers_21 rfl rfl ?_
    refine u_getr fX11_7 dX11_chambers_22 sh_66 rfl (by decide) (rf_66_0 _) ?_
    refine v_iconst (v := 0) dX11_chambers_25 (by decide) ?_
    refine v_iload_n dX11_chambers_26 rfl rfl ?_
    refine v_iadd dX11_chambers_27 ?_
    obtain ⟨j6, e_j6, l_j6, h⟩ := h
    refine u_iald dX11_chambers_28 sh_67 (by decide) (by decide) e_j6 l_j6 ?_
    refine v_iconst (v := 4) dX11_chambers_29 (by decide) ?_
    refine v_icmp_ne (tgt := 41) dX11_chambers_30 (by decide) (fun c7 => ?_) (fun c7 => ?_)
    · have h := h.1 c7
      refine v_iload_n dX11_chambers_41 rfl rfl ?_
      refine v_if_ge (tgt := 53) dX11_chambers_42 (by decide) (fun c8 => ?_) (fun c8 => ?_)
      · have h := h.1 c8
        refine v_aload_n dX11_chambers_53 rfl rfl ?_
        refine v_iload_n dX11_chambers_54 rfl rfl ?_
        refine u_callV [.int v5] mX11_well iX11_well lX11_74 dX11_chambers_55 sh_66 rfl rfl (by decide) ⟨rfl, rfl, id⟩ rfl rfl (Nat.le_of_ble_eq_true rfl) (Nat.le_of_ble_eq_true rfl) (v_X11_well v5 _ _ h) ?_
        rintro _ τ10 ⟨r9, rfl, h⟩
        exact u_iret dX11_chambers_58 ⟨rfl, id⟩ h
      · have h := h.2 c8
        refine v_aload_n dX11_chambers_45 rfl rfl ?_
        refine v_iconst (v := 1) dX11_chambers_46 (by decide) ?_
        refine u_callV [.int (1 : Int32)] mX11_met iX11_met lX11_80 dX11_chambers_47 sh_66 rfl rfl (by decide) ⟨rfl, rfl, id⟩ rfl rfl (Nat.le_of_ble_eq_true rfl) (Nat.le_of_ble_eq_true rfl) (v_X11_met (1 : Int32) _ _ h) ?_
        rintro _ τ12 ⟨r11, rfl, h⟩
        refine v_goto (tgt := 58) dX11_chambers_50 (by decide) ?_
        exact u_iret dX11_chambers_58 ⟨rfl, id⟩ h
    · have h := h.2 c7
      refine v_aload_n dX11_chambers_33 rfl rfl ?_
      refine v_iconst (v := 3) dX11_chambers_34 (by decide) ?_
      refine u_callV [.int (3 : Int32)] mX11_met iX11_met lX11_80 dX11_chambers_35 sh_66 rfl rfl (by decide) ⟨rfl, rfl, id⟩ rfl rfl (Nat.le_of_ble_eq_true rfl) (Nat.le_of_ble_eq_true rfl) (v_X11_met (3 : Int32) _ _ h) ?_
      rintro _ τ14 ⟨r13, rfl, h⟩
      refine v_goto (tgt := 58) dX11_chambers_38 (by decide) ?_
      exact u_iret dX11_chambers_58 ⟨rfl, id⟩ h
  · have h := h.2 c3
    refine v_bipush (v := -2) dX11_chambers_8 (by decide) ?_
    exact u_iret dX11_chambers_10 ⟨rfl, id⟩ h
def T_X11_note (a1 : Int32) (a2 : Int32) (τ : kT) (post : kT → Prop) : Prop := ((a2 = 0 → post τ) ∧ (¬ a2 = 0 → (((40 : Int32) ≤ (q_i τ 66 9) → (∀ τ3 : kT, τ3 = q_si τ 66 9 ((q_i τ 66 9) + (1 : Int32)) → post τ3)) ∧ (¬ (40 : Int32) ≤ (q_i τ 66 9) → (∃ j4 : Nat, (q_i τ 66 9) = nI j4 ∧ j4 < 40 ∧ (∀ τ5 : kT, τ5 = q_si τ 69 j4 a1 → (∀ τ6 : kT, τ6 = q_si τ5 66 9 ((q_i τ5 66 9) + (1 : Int32)) → post τ6)))))))
set_option maxRecDepth 100000 in
set_option maxHeartbeats 4000000 in
theorem v_X11_note {d : Nat}  (a1 : Int32) (a2 : Int32) (τ : kT) (post : kT → Prop) (h : T_X11_note  a1 a2 τ post) : U yX11_note cX11_note 3 none (d + 0) kE0 0 [some (.ref 66), some (.int a1), some (.int a2)] [] τ (k_pv post) := by
  unfold T_X11_note at h
  refine v_iload_n dX11_note_0 rfl rfl ?_
  refine v_if_eq (tgt := 33) dX11_note_1 (by decide) (fun c1 => ?_) (fun c1 => ?_)
  · have h := h.1 c1
    exact u_vret dX11_note_33 ⟨rfl, id⟩ h
  · have h := h.2 c1
    refine v_aload_n dX11_note_4 rfl rfl ?_
    refine u_geti fX11_103 dX11_note_5 sh_66 rfl (by decide) ?_
    refine v_bipush (v := 40) dX11_note_8 (by decide) ?_
    refine v_icmp_ge (tgt := 23) dX11_note_10 (by decide) (fun c2 => ?_) (fun c2 => ?_)
    · have h := h.1 c2
      refine v_aload_n dX11_note_23 rfl rfl ?_
      refine v_dup dX11_note_24 rfl ?_
      refine u_geti fX11_103 dX11_note_25 sh_66 rfl (by decide) ?_
      refine v_iconst (v := 1) dX11_note_28 (by decide) ?_
      refine v_iadd dX11_note_29 ?_
      refine u_puti pX11_103 ⟨_, rfl⟩ dX11_note_30 sh_66 rfl (by decide) (by decide) (fun τ3 e_τ3 => ?_)
      have h := h τ3 e_τ3
      exact u_vret dX11_note_33 ⟨rfl, id⟩ h
    · have h := h.2 c2
      refine v_aload_n dX11_note_13 rfl rfl ?_
      refine u_getr fX11_23 dX11_note_14 sh_66 rfl (by decide) (rf_66_8 _) ?_
      refine v_aload_n dX11_note_17 rfl rfl ?_
      refine u_geti fX11_103 dX11_note_18 sh_66 rfl (by decide) ?_
      refine v_iload_n dX11_note_21 rfl rfl ?_
      obtain ⟨j4, e_j4, l_j4, h⟩ := h
      refine u_iast dX11_note_22 sh_69 (by decide) (by decide) e_j4 l_j4 (fun τ5 e_τ5 => ?_)
      have h := h τ5 e_τ5
      refine v_aload_n dX11_note_23 rfl rfl ?_
      refine v_dup dX11_note_24 rfl ?_
      refine u_geti fX11_103 dX11_note_25 sh_66 rfl (by decide) ?_
      refine v_iconst (v := 1) dX11_note_28 (by decide) ?_
      refine v_iadd dX11_note_29 ?_
      refine u_puti pX11_103 ⟨_, rfl⟩ dX11_note_30 sh_66 rfl (by decide) (by decide) (fun τ6 e_τ6 => ?_)
      have h := h τ6 e_τ6
      exact u_vret dX11_note_33 ⟨rfl, id⟩ h
def L_X11_weigh_119  (f1 : Int32) (f2 : Int32) (K : Int32 → Int32 → kT → Prop) (post : Int32 → kT → Prop) : Nat → Int32 → Int32 → kT → Prop
  | 0, _, _, _ => False
  | n + 1, x3, x4, τ => (((180 : Int32) ≤ x4 → K x3 x4 τ) ∧ (¬ (180 : Int32) ≤ x4 → (∃ j10 : Nat, (((400 : Int32) + ((18 : Int32) * f1)) + (x4 / (10 : Int32))) = nI j10 ∧ j10 < 8530 ∧ (∀ v11 : Int32, v11 = (x3 + ((((q_i τ 67 j10) >>> ((x4 - x4 / (10 : Int32) * (10 : Int32)) &&& 31)) &&& (1 : Int32)) * (x4 - x4 / (10 : Int32) * (10 : Int32)))) → (∀ v12 : Int32, v12 = x4 + (1 : Int32) → L_X11_weigh_119 f1 f2 K post n v11 v12 τ)))))
def T_X11_weigh : Nat → Int32 → kT → (Int32 → kT → Prop) → Prop
  | 0, _, _, _ => False
  | n0 + 1, a1, τ, post => ((¬ a1 = (-1 : Int32) → (∃ j2 : Nat, ((0 : Int32) + a1) = nI j2 ∧ j2 < 8530 ∧ (∀ v3 : Int32, v3 = (q_i τ 67 j2) → ((¬ v3 = (4 : Int32) → ((¬ v3 = (2 : Int32) → (T_X11_note (5 : Int32) (1 : Int32) τ (fun τ7 => ((¬ v3 = (2 : Int32) → (∃ m13 : Nat, L_X11_weigh_119  a1 v3 (fun v14 v15 τ16 => (∃ j17 : Nat, ((100 : Int32) + a1) = nI j17 ∧ j17 < 8530 ∧ ((0 ≤ (q_i τ16 67 j17) → post v14 τ16) ∧ (¬ 0 ≤ (q_i τ16 67 j17) → post (-1 : Int32) τ16)))) post m13 (10 : Int32) (0 : Int32) τ7)) ∧ (v3 = (2 : Int32) → (∃ m19 : Nat, L_X11_weigh_119  a1 v3 (fun v20 v21 τ22 => (∃ j23 : Nat, ((100 : Int32) + a1) = nI j23 ∧ j23 < 8530 ∧ ((0 ≤ (q_i τ22 67 j23) → post v20 τ22) ∧ (¬ 0 ≤ (q_i τ22 67 j23) → post (-1 : Int32) τ22)))) post m19 (15 : Int32) (0 : Int32) τ7)))))) ∧ (v3 = (2 : Int32) → (T_X11_note (6 : Int32) (1 : Int32) τ (fun τ26 => (T_X11_note (5 : Int32) (1 : Int32) τ26 (fun τ28 => ((¬ v3 = (2 : Int32) → (∃ m30 : Nat, L_X11_weigh_119  a1 v3 (fun v31 v32 τ33 => (∃ j34 : Nat, ((100 : Int32) + a1) = nI j34 ∧ j34 < 8530 ∧ ((0 ≤ (q_i τ33 67 j34) → post v31 τ33) ∧ (¬ 0 ≤ (q_i τ33 67 j34) → post (-1 : Int32) τ33)))) post m30 (10 : Int32) (0 : Int32) τ28)) ∧ (v3 = (2 : Int32) → (∃ m36 : Nat, L_X11_weigh_119  a1 v3 (fun v37 v38 τ39 => (∃ j40 : Nat, ((100 : Int32) + a1) = nI j40 ∧ j40 < 8530 ∧ ((0 ≤ (q_i τ39 67 j40) → post v37 τ39) ∧ (¬ 0 ≤ (q_i τ39 67 j40) → post (-1 : Int32) τ39)))) post m36 (15 : Int32) (0 : Int32) τ28)))))))))) ∧ (v3 = (4 : Int32) → (T_X11_note (7 : Int32) (1 : Int32) τ (fun τ43 => (∃ j44 : Nat, ((200 : Int32) + a1) = nI j44 ∧ j44 < 8530 ∧ ((T_X11_weigh n0) (q_i τ43 67 j44) τ43 (fun r45 τ46 => ((0 ≤ r45 → (∃ j48 : Nat, ((300 : Int32) + a1) = nI j48 ∧ j48 < 8530 ∧ ((T_X11_weigh n0) (q_i τ46 67 j48) τ46 (fun r49 τ50 => ((r45 < 0 → post (-1 : Int32) τ50) ∧ (¬ r45 < 0 → ((0 ≤ r49 → post (r45 + r49) τ50) ∧ (¬ 0 ≤ r49 → post (-1 : Int32) τ50)))))))) ∧ (¬ 0 ≤ r45 → ((r45 < 0 → post (-1 : Int32) τ46) ∧ (¬ r45 < 0 → ((0 ≤ (-1 : Int32) → post (r45 + (-1 : Int32)) τ46) ∧ (¬ 0 ≤ (-1 : Int32) → post (-1 : Int32) τ46)))))))))))))))) ∧ (a1 = (-1 : Int32) → post (0 : Int32) τ))
set_option maxRecDepth 100000 in
set_option maxHeartbeats 4000000 in
theorem l_X11_weigh_119 {d : Nat}  (f1 : Int32) (f2 : Int32) {K : Int32 → Int32 → kT → Prop} {post : Int32 → kT → Prop} (hK : ∀ (x3 : Int32) (x4 : Int32) (τ : kT), K x3 x4 τ → U yX11_weigh cX11_weigh 5 (some .int) (d + 2) kE0 169 [some (.ref 66), some (.int f1), some (.int f2), some (.int x3), some (.int x4)] [] τ (k_pi post)) : ∀ (n : Nat) (x3 : Int32) (x4 : Int32) (τ : kT), L_X11_weigh_119  f1 f2 K post n x3 x4 τ → U yX11_weigh cX11_weigh 5 (some .int) (d + 2) kE0 119 [some (.ref 66), some (.int f1), some (.int f2), some (.int x3), some (.int x4)] [] τ (k_pi post) := by
  intro n
  induction n with
  | zero => intro x3 x4 τ h; exact h.elim
  | succ n ih =>
    intro x3 x4 τ h
    unfold L_X11_weigh_119 at h
    refine v_iload dX11_weigh_119 rfl ?_
    refine v_sipush (v := 180) dX11_weigh_121 (by decide) ?_
    refine v_icmp_ge (tgt := 169) dX11_weigh_124 (by decide) (fun c9 => ?_) (fun c9 => ?_)
    · have h := h.1 c9
      exact hK x3 x4 _ h
    · have h := h.2 c9
      refine v_iload_n dX11_weigh_127 rfl rfl ?_
      refine v_aload_n dX11_weigh_128 rfl rfl ?_
      refine u_getr fX11_7 dX11_weigh_129 sh_66 rfl (by decide) (rf_66_0 _) ?_
      refine v_sipush (v := 400) dX11_weigh_132 (by decide) ?_
      refine v_bipush (v := 18) dX11_weigh_135 (by decide) ?_
      refine v_iload_n dX11_weigh_137 rfl rfl ?_
      refine v_imul dX11_weigh_138 ?_
      refine v_iadd dX11_weigh_139 ?_
      refine v_iload dX11_weigh_140 rfl ?_
      refine v_bipush (v := 10) dX11_weigh_142 (by decide) ?_
      refine v_idiv dX11_weigh_144 (by decide) ?_
      refine v_iadd dX11_weigh_145 ?_
      obtain ⟨j10, e_j10, l_j10, h⟩ := h
      refine u_iald dX11_weigh_146 sh_67 (by decide) (by decide) e_j10 l_j10 ?_
      refine v_iload dX11_weigh_147 rfl ?_
      refine v_bipush (v := 10) dX11_weigh_149 (by decide) ?_
      refine v_irem dX11_weigh_151 (by decide) ?_
      refine v_ishr dX11_weigh_152 ?_
      refine v_iconst (v := 1) dX11_weigh_153 (by decide) ?_
      refine v_iand dX11_weigh_154 ?_
      refine v_iload dX11_weigh_155 rfl ?_
      refine v_bipush (v := 10) dX11_weigh_157 (by decide) ?_
      refine v_irem dX11_weigh_159 (by decide) ?_
      refine v_imul dX11_weigh_160 ?_
      refine v_iadd dX11_weigh_161 ?_
      refine v_topi (fun v11 e_v11 => ?_)
      have h := h v11 e_v11
      refine v_istore_n dX11_weigh_162 rfl (by decide) rfl ?_
      refine v_ls (ls2 := [some (.ref 66), some (.int f1), some (.int f2), some (.int v11), some (.int x4)]) rfl ?_
      obtain ⟨v12, e_v12⟩ : ∃ z : Int32, z = x4 + (1 : Int32) := ⟨_, rfl⟩
      have h := h v12 e_v12
      refine v_iinc (v := v12) dX11_weigh_163 rfl (by rw [e_v12]; rfl) (by decide) rfl ?_
      refine v_ls (ls2 := [some (.ref 66), some (.int f1), some (.int f2), some (.int v11), some (.int v12)]) rfl ?_
      refine v_goto (tgt := 119) dX11_weigh_166 (by decide) ?_
      exact ih v11 v12 _ h
set_option maxRecDepth 100000 in
set_option maxHeartbeats 4000000 in
theorem v_X11_weigh {d : Nat} : ∀ (n : Nat) (a1 : Int32) (τ : kT) (post : Int32 → kT → Prop), T_X11_weigh n a1 τ post → U yX11_weigh cX11_weigh 5 (some .int) (d + n + 1) kE0 0 [some (.ref 66), some (.int a1), none, none, none] [] τ (k_pi post) := by
  intro n
  induction n with
  | zero => intro a1 τ post h; exact h.elim
  | succ n0 ihR =>
    intro a1 τ post h
    unfold T_X11_weigh at h
    rw [show d + (n0 + 1) + 1 = d + n0 + 2 by omega]
    refine v_iload_n dX11_weigh_0 rfl rfl ?_
    refine v_iconst (v := -1) dX11_weigh_1 (by decide) ?_
    refine v_icmp_ne (tgt := 7) dX11_weigh_2 (by decide) (fun c1 => ?_) (fun c1 => ?_)
    · have h := h.1 c1
      refine v_aload_n dX11_weigh_7 rfl rfl ?_
      refine u_getr fX11_7 dX11_weigh_8 sh_66 rfl (by decide) (rf_66_0 _) ?_
      refine v_iconst (v := 0) dX11_weigh_11 (by decide) ?_
      refine v_iload_n dX11_weigh_12 rfl rfl ?_
      refine v_iadd dX11_weigh_13 ?_
      obtain ⟨j2, e_j2, l_j2, h⟩ := h
      refine u_iald dX11_weigh_14 sh_67 (by decide) (by decide) e_j2 l_j2 ?_
      refine v_topi (fun v3 e_v3 => ?_)
      have h := h v3 e_v3
      refine v_istore_n dX11_weigh_15 rfl (by decide) rfl ?_
      refine v_ls (ls2 := [some (.ref 66), some (.int a1), some (.int v3), none, none]) rfl ?_
      refine v_iload_n dX11_weigh_16 rfl rfl ?_
      refine v_iconst (v := 4) dX11_weigh_17 (by decide) ?_
      refine v_icmp_ne (tgt := 85) dX11_weigh_18 (by decide) (fun c4 => ?_) (fun c4 => ?_)
      · have h := h.1 c4
        refine v_iload_n dX11_weigh_85 rfl rfl ?_
        refine v_iconst (v := 2) dX11_weigh_86 (by decide) ?_
        refine v_icmp_ne (tgt := 97) dX11_weigh_87 (by decide) (fun c5 => ?_) (fun c5 => ?_)
        · have h := h.1 c5
          refine v_aload_n dX11_weigh_97 rfl rfl ?_
          refine v_iconst (v := 5) dX11_weigh_98 (by decide) ?_
          refine v_iconst (v := 1) dX11_weigh_99 (by decide) ?_
          refine u_callV [.int (5 : Int32), .int (1 : Int32)] mX11_note iX11_note lX11_106 dX11_weigh_100 sh_66 rfl rfl (by decide) ⟨rfl, rfl, id⟩ rfl rfl (Nat.le_of_ble_eq_true rfl) (Nat.le_of_ble_eq_true rfl) (v_X11_note (5 : Int32) (1 : Int32) _ _ h) ?_
          rintro _ τ7 ⟨rfl, h⟩
          refine v_iload_n dX11_weigh_103 rfl rfl ?_
          refine v_iconst (v := 2) dX11_weigh_104 (by decide) ?_
          refine v_icmp_ne (tgt := 113) dX11_weigh_105 (by decide) (fun c8 => ?_) (fun c8 => ?_)
          · have h := h.1 c8
            refine v_bipush (v := 10) dX11_weigh_113 (by decide) ?_
            refine v_istore_n dX11_weigh_115 rfl (by decide) rfl ?_
            refine v_ls (ls2 := [some (.ref 66), some (.int a1), some (.int v3), some (.int (10 : Int32)), none]) rfl ?_
            refine v_iconst (v := 0) dX11_weigh_116 (by decide) ?_
            refine v_istore dX11_weigh_117 (by decide) rfl ?_
            refine v_ls (ls2 := [some (.ref 66), some (.int a1), some (.int v3), some (.int (10 : Int32)), some (.int (0 : Int32))]) rfl ?_
            obtain ⟨m13, h⟩ := h
            refine l_X11_weigh_119  a1 v3 (fun v14 v15 τ16 h => ?_) m13 (10 : Int32) (0 : Int32) _ h
            refine v_aload_n dX11_weigh_169 rfl rfl ?_
            refine u_getr fX11_7 dX11_weigh_170 sh_66 rfl (by decide) (rf_66_0 _) ?_
            refine v_bipush (v := 100) dX11_weigh_173 (by decide) ?_
            refine v_iload_n dX11_weigh_175 rfl rfl ?_
            refine v_iadd dX11_weigh_176 ?_
            obtain ⟨j17, e_j17, l_j17, h⟩ := h
            refine u_iald dX11_weigh_177 sh_67 (by decide) (by decide) e_j17 l_j17 ?_
            refine v_if_ge (tgt := 185) dX11_weigh_178 (by decide) (fun c18 => ?_) (fun c18 => ?_)
            · have h := h.1 c18
              refine v_iload_n dX11_weigh_185 rfl rfl ?_
              exact u_iret dX11_weigh_186 ⟨rfl, id⟩ h
            · have h := h.2 c18
              refine v_iconst (v := -1) dX11_weigh_181 (by decide) ?_
              refine v_goto (tgt := 186) dX11_weigh_182 (by decide) ?_
              exact u_iret dX11_weigh_186 ⟨rfl, id⟩ h
          · have h := h.2 c8
            refine v_bipush (v := 15) dX11_weigh_108 (by decide) ?_
            refine v_goto (tgt := 115) dX11_weigh_110 (by decide) ?_
            refine v_istore_n dX11_weigh_115 rfl (by decide) rfl ?_
            refine v_ls (ls2 := [some (.ref 66), some (.int a1), some (.int v3), some (.int (15 : Int32)), none]) rfl ?_
            refine v_iconst (v := 0) dX11_weigh_116 (by decide) ?_
            refine v_istore dX11_weigh_117 (by decide) rfl ?_
            refine v_ls (ls2 := [some (.ref 66), some (.int a1), some (.int v3), some (.int (15 : Int32)), some (.int (0 : Int32))]) rfl ?_
            obtain ⟨m19, h⟩ := h
            refine l_X11_weigh_119  a1 v3 (fun v20 v21 τ22 h => ?_) m19 (15 : Int32) (0 : Int32) _ h
            refine v_aload_n dX11_weigh_169 rfl rfl ?_
            refine u_getr fX11_7 dX11_weigh_170 sh_66 rfl (by decide) (rf_66_0 _) ?_
            refine v_bipush (v := 100) dX11_weigh_173 (by decide) ?_
            refine v_iload_n dX11_weigh_175 rfl rfl ?_
            refine v_iadd dX11_weigh_176 ?_
            obtain ⟨j23, e_j23, l_j23, h⟩ := h
            refine u_iald dX11_weigh_177 sh_67 (by decide) (by decide) e_j23 l_j23 ?_
            refine v_if_ge (tgt := 185) dX11_weigh_178 (by decide) (fun c24 => ?_) (fun c24 => ?_)
            · have h := h.1 c24
              refine v_iload_n dX11_weigh_185 rfl rfl ?_
              exact u_iret dX11_weigh_186 ⟨rfl, id⟩ h
            · have h := h.2 c24
              refine v_iconst (v := -1) dX11_weigh_181 (by decide) ?_
              refine v_goto (tgt := 186) dX11_weigh_182 (by decide) ?_
              exact u_iret dX11_weigh_186 ⟨rfl, id⟩ h
        · have h := h.2 c5
          refine v_aload_n dX11_weigh_90 rfl rfl ?_
          refine v_bipush (v := 6) dX11_weigh_91 (by decide) ?_
          refine v_iconst (v := 1) dX11_weigh_93 (by decide) ?_
          refine u_callV [.int (6 : Int32), .int (1 : Int32)] mX11_note iX11_note lX11_106 dX11_weigh_94 sh_66 rfl rfl (by decide) ⟨rfl, rfl, id⟩ rfl rfl (Nat.le_of_ble_eq_true rfl) (Nat.le_of_ble_eq_true rfl) (v_X11_note (6 : Int32) (1 : Int32) _ _ h) ?_
          rintro _ τ26 ⟨rfl, h⟩
          refine v_aload_n dX11_weigh_97 rfl rfl ?_
          refine v_iconst (v := 5) dX11_weigh_98 (by decide) ?_
          refine v_iconst (v := 1) dX11_weigh_99 (by decide) ?_
          refine u_callV [.int (5 : Int32), .int (1 : Int32)] mX11_note iX11_note lX11_106 dX11_weigh_100 sh_66 rfl rfl (by decide) ⟨rfl, rfl, id⟩ rfl rfl (Nat.le_of_ble_eq_true rfl) (Nat.le_of_ble_eq_true rfl) (v_X11_note (5 : Int32) (1 : Int32) _ _ h) ?_
          rintro _ τ28 ⟨rfl, h⟩
          refine v_iload_n dX11_weigh_103 rfl rfl ?_
          refine v_iconst (v := 2) dX11_weigh_104 (by decide) ?_
          refine v_icmp_ne (tgt := 113) dX11_weigh_105 (by decide) (fun c29 => ?_) (fun c29 => ?_)
          · have h := h.1 c29
            refine v_bipush (v := 10) dX11_weigh_113 (by decide) ?_
            refine v_istore_n dX11_weigh_115 rfl (by decide) rfl ?_
            refine v_ls (ls2 := [some (.ref 66), some (.int a1), some (.int v3), some (.int (10 : Int32)), none]) rfl ?_
            refine v_iconst (v := 0) dX11_weigh_116 (by decide) ?_
            refine v_istore dX11_weigh_117 (by decide) rfl ?_
            refine v_ls (ls2 := [some (.ref 66), some (.int a1), some (.int v3), some (.int (10 : Int32)), some (.int (0 : Int32))]) rfl ?_
            obtain ⟨m30, h⟩ := h
            refine l_X11_weigh_119  a1 v3 (fun v31 v32 τ33 h => ?_) m30 (10 : Int32) (0 : Int32) _ h
            refine v_aload_n dX11_weigh_169 rfl rfl ?_
            refine u_getr fX11_7 dX11_weigh_170 sh_66 rfl (by decide) (rf_66_0 _) ?_
            refine v_bipush (v := 100) dX11_weigh_173 (by decide) ?_
            refine v_iload_n dX11_weigh_175 rfl rfl ?_
            refine v_iadd dX11_weigh_176 ?_
            obtain ⟨j34, e_j34, l_j34, h⟩ := h
            refine u_iald dX11_weigh_177 sh_67 (by decide) (by decide) e_j34 l_j34 ?_
            refine v_if_ge (tgt := 185) dX11_weigh_178 (by decide) (fun c35 => ?_) (fun c35 => ?_)
            · have h := h.1 c35
              refine v_iload_n dX11_weigh_185 rfl rfl ?_
              exact u_iret dX11_weigh_186 ⟨rfl, id⟩ h
            · have h := h.2 c35
              refine v_iconst (v := -1) dX11_weigh_181 (by decide) ?_
              refine v_goto (tgt := 186) dX11_weigh_182 (by decide) ?_
              exact u_iret dX11_weigh_186 ⟨rfl, id⟩ h
          · have h := h.2 c29
            refine v_bipush (v := 15) dX11_weigh_108 (by decide) ?_
            refine v_goto (tgt := 115) dX11_weigh_110 (by decide) ?_
            refine v_istore_n dX11_weigh_115 rfl (by decide) rfl ?_
            refine v_ls (ls2 := [some (.ref 66), some (.int a1), some (.int v3), some (.int (15 : Int32)), none]) rfl ?_
            refine v_iconst (v := 0) dX11_weigh_116 (by decide) ?_
            refine v_istore dX11_weigh_117 (by decide) rfl ?_
            refine v_ls (ls2 := [some (.ref 66), some (.int a1), some (.int v3), some (.int (15 : Int32)), some (.int (0 : Int32))]) rfl ?_
            obtain ⟨m36, h⟩ := h
            refine l_X11_weigh_119  a1 v3 (fun v37 v38 τ39 h => ?_) m36 (15 : Int32) (0 : Int32) _ h
            refine v_aload_n dX11_weigh_169 rfl rfl ?_
            refine u_getr fX11_7 dX11_weigh_170 sh_66 rfl (by decide) (rf_66_0 _) ?_
            refine v_bipush (v := 100) dX11_weigh_173 (by decide) ?_
            refine v_iload_n dX11_weigh_175 rfl rfl ?_
            refine v_iadd dX11_weigh_176 ?_
            obtain ⟨j40, e_j40, l_j40, h⟩ := h
            refine u_iald dX11_weigh_177 sh_67 (by decide) (by decide) e_j40 l_j40 ?_
            refine v_if_ge (tgt := 185) dX11_weigh_178 (by decide) (fun c41 => ?_) (fun c41 => ?_)
            · have h := h.1 c41
              refine v_iload_n dX11_weigh_185 rfl rfl ?_
              exact u_iret dX11_weigh_186 ⟨rfl, id⟩ h
            · have h := h.2 c41
              refine v_iconst (v := -1) dX11_weigh_181 (by decide) ?_
              refine v_goto (tgt := 186) dX11_weigh_182 (by decide) ?_
              exact u_iret dX11_weigh_186 ⟨rfl, id⟩ h
      · have h := h.2 c4
        refine v_aload_n dX11_weigh_21 rfl rfl ?_
        refine v_bipush (v := 7) dX11_weigh_22 (by decide) ?_
        refine v_iconst (v := 1) dX11_weigh_24 (by decide) ?_
        refine u_callV [.int (7 : Int32), .int (1 : Int32)] mX11_note iX11_note lX11_106 dX11_weigh_25 sh_66 rfl rfl (by decide) ⟨rfl, rfl, id⟩ rfl rfl (Nat.le_of_ble_eq_true rfl) (Nat.le_of_ble_eq_true rfl) (v_X11_note (7 : Int32) (1 : Int32) _ _ h) ?_
        rintro _ τ43 ⟨rfl, h⟩
        refine v_aload_n dX11_weigh_28 rfl rfl ?_
        refine v_aload_n dX11_weigh_29 rfl rfl ?_
        refine u_getr fX11_7 dX11_weigh_30 sh_66 rfl (by decide) (rf_66_0 _) ?_
        refine v_sipush (v := 200) dX11_weigh_33 (by decide) ?_
        refine v_iload_n dX11_weigh_36 rfl rfl ?_
        refine v_iadd dX11_weigh_37 ?_
        obtain ⟨j44, e_j44, l_j44, h⟩ := h
        refine u_iald dX11_weigh_38 sh_67 (by decide) (by decide) e_j44 l_j44 ?_
        refine u_callV [.int (q_i τ43 67 j44)] mX11_weigh iX11_weigh lX11_110 dX11_weigh_39 sh_66 rfl rfl (by decide) ⟨rfl, rfl, id⟩ rfl rfl (Nat.le_of_ble_eq_true rfl) (Nat.le_of_ble_eq_true rfl) (ihR (q_i τ43 67 j44) _ _ h) ?_
        rintro _ τ46 ⟨r45, rfl, h⟩
        refine v_istore_n dX11_weigh_42 rfl (by decide) rfl ?_
        refine v_ls (ls2 := [some (.ref 66), some (.int a1), some (.int v3), some (.int r45), none]) rfl ?_
        refine v_iload_n dX11_weigh_43 rfl rfl ?_
        refine v_if_ge (tgt := 51) dX11_weigh_44 (by decide) (fun c47 => ?_) (fun c47 => ?_)
        · have h := h.1 c47
          refine v_aload_n dX11_weigh_51 rfl rfl ?_
          refine v_aload_n dX11_weigh_52 rfl rfl ?_
          refine u_getr fX11_7 dX11_weigh_53 sh_66 rfl (by decide) (rf_66_0 _) ?_
          refine v_sipush (v := 300) dX11_weigh_56 (by decide) ?_
          refine v_iload_n dX11_weigh_59 rfl rfl ?_
          refine v_iadd dX11_weigh_60 ?_
          obtain ⟨j48, e_j48, l_j48, h⟩ := h
          refine u_iald dX11_weigh_61 sh_67 (by decide) (by decide) e_j48 l_j48 ?_
          refine u_callV [.int (q_i τ46 67 j48)] mX11_weigh iX11_weigh lX11_110 dX11_weigh_62 sh_66 rfl rfl (by decide) ⟨rfl, rfl, id⟩ rfl rfl (Nat.le_of_ble_eq_true rfl) (Nat.le_of_ble_eq_true rfl) (ihR (q_i τ46 67 j48) _ _ h) ?_
          rintro _ τ50 ⟨r49, rfl, h⟩
          refine v_istore dX11_weigh_65 (by decide) rfl ?_
          refine v_ls (ls2 := [some (.ref 66), some (.int a1), some (.int v3), some (.int r45), some (.int r49)]) rfl ?_
          refine v_iload_n dX11_weigh_67 rfl rfl ?_
          refine v_if_lt (tgt := 76) dX11_weigh_68 (by decide) (fun c51 => ?_) (fun c51 => ?_)
          · have h := h.1 c51
            refine v_iconst (v := -1) dX11_weigh_76 (by decide) ?_
            refine v_goto (tgt := 84) dX11_weigh_77 (by decide) ?_
            exact u_iret dX11_weigh_84 ⟨rfl, id⟩ h
          · have h := h.2 c51
            refine v_iload dX11_weigh_71 rfl ?_
            refine v_if_ge (tgt := 80) dX11_weigh_73 (by decide) (fun c52 => ?_) (fun c52 => ?_)
            · have h := h.1 c52
              refine v_iload_n dX11_weigh_80 rfl rfl ?_
              refine v_iload dX11_weigh_81 rfl ?_
              refine v_iadd dX11_weigh_83 ?_
              exact u_iret dX11_weigh_84 ⟨rfl, id⟩ h
            · have h := h.2 c52
              refine v_iconst (v := -1) dX11_weigh_76 (by decide) ?_
              refine v_goto (tgt := 84) dX11_weigh_77 (by decide) ?_
              exact u_iret dX11_weigh_84 ⟨rfl, id⟩ h
        · have h := h.2 c47
          refine v_iconst (v := -1) dX11_weigh_47 (by decide) ?_
          refine v_goto (tgt := 65) dX11_weigh_48 (by decide) ?_
          refine v_istore dX11_weigh_65 (by decide) rfl ?_
          refine v_ls (ls2 := [some (.ref 66), some (.int a1), some (.int v3), some (.int r45), some (.int (-1 : Int32))]) rfl ?_
          refine v_iload_n dX11_weigh_67 rfl rfl ?_
          refine v_if_lt (tgt := 76) dX11_weigh_68 (by decide) (fun c53 => ?_) (fun c53 => ?_)
          · have h := h.1 c53
            refine v_iconst (v := -1) dX11_weigh_76 (by decide) ?_
            refine v_goto (tgt := 84) dX11_weigh_77 (by decide) ?_
            exact u_iret dX11_weigh_84 ⟨rfl, id⟩ h
          · have h := h.2 c53
            refine v_iload dX11_weigh_71 rfl ?_
            refine v_if_ge (tgt := 80) dX11_weigh_73 (by decide) (fun c54 => ?_) (fun c54 => ?_)
            · have h := h.1 c54
              refine v_iload_n dX11_weigh_80 rfl rfl ?_
              refine v_iload dX11_weigh_81 rfl ?_
              refine v_iadd dX11_weigh_83 ?_
              exact u_iret dX11_weigh_84 ⟨rfl, id⟩ h
            · have h := h.2 c54
              refine v_iconst (v := -1) dX11_weigh_76 (by decide) ?_
              refine v_goto (tgt := 84) dX11_weigh_77 (by decide) ?_
              exact u_iret dX11_weigh_84 ⟨rfl, id⟩ h
    · have h := h.2 c1
      refine v_iconst (v := 0) dX11_weigh_5 (by decide) ?_
      exact u_iret dX11_weigh_6 ⟨rfl, id⟩ h
theorem v_X11_weigh_N {d : Nat} (a1 : Int32) (τ : kT) (post : Int32 → kT → Prop) (h : T_X11_weigh 2 a1 τ post) : U yX11_weigh cX11_weigh 5 (some .int) (d + 3) kE0 0 [some (.ref 66), some (.int a1), none, none, none] [] τ (k_pi post) := by
  have h9 := v_X11_weigh (d := d) 2 a1 τ post h
  rw [show d + 2 + 1 = d + 3 by omega] at h9
  exact h9
def T_X11_weight (a1 : Int32) (τ : kT) (post : Int32 → kT → Prop) : Prop := (T_X11_isCylinder a1 τ (fun r1 τ2 => ((¬ r1 = 0 → (∀ τ4 : kT, τ4 = q_si τ2 66 9 (0 : Int32) → (T_X11_weigh 2 a1 τ4 (fun r5 τ6 => ((0 ≤ r5 → (T_X11_well r5 τ6 (fun r8 τ9 => post r8 τ9))) ∧ (¬ 0 ≤ r5 → (T_X11_met (1 : Int32) τ6 (fun r10 τ11 => post r10 τ11)))))))) ∧ (r1 = 0 → post (-2 : Int32) τ2))))
set_option maxRecDepth 100000 in
set_option maxHeartbeats 4000000 in
theorem v_X11_weight {d : Nat}  (a1 : Int32) (τ : kT) (post : Int32 → kT → Prop) (h : T_X11_weight  a1 τ post) : U yX11_weight cX11_weight 3 (some .int) (d + 4) kE0 0 [some (.ref 66), some (.int a1), none] [] τ (k_pi post) := by
  unfold T_X11_weight at h
  refine v_aload_n dX11_weight_0 rfl rfl ?_
  refine v_iload_n dX11_weight_1 rfl rfl ?_
  refine u_callV [.int a1] mX11_isCylinder iX11_isCylinder lX11_87 dX11_weight_2 sh_66 rfl rfl (by decide) ⟨rfl, rfl, id⟩ rfl rfl (Nat.le_of_ble_eq_true rfl) (Nat.le_of_ble_eq_true rfl) (v_X11_isCylinder a1 _ _ h) ?_
  rintro _ τ2 ⟨r1, rfl, h⟩
  refine v_if_ne (tgt := 11) dX11_weight_5 (by decide) (fun c3 => ?_) (fun c3 => ?_)
  · have h := h.1 c3
    refine v_aload_n dX11_weight_11 rfl rfl ?_
    refine v_iconst (v := 0) dX11_weight_12 (by decide) ?_
    refine u_puti pX11_103 ⟨_, rfl⟩ dX11_weight_13 sh_66 rfl (by decide) (by decide) (fun τ4 e_τ4 => ?_)
    have h := h τ4 e_τ4
    refine v_aload_n dX11_weight_16 rfl rfl ?_
    refine v_iload_n dX11_weight_17 rfl rfl ?_
    refine u_callV [.int a1] mX11_weigh iX11_weigh lX11_110 dX11_weight_18 sh_66 rfl rfl (by decide) ⟨rfl, rfl, id⟩ rfl rfl (Nat.le_of_ble_eq_true rfl) (Nat.le_of_ble_eq_true rfl) (v_X11_weigh_N a1 _ _ h) ?_
    rintro _ τ6 ⟨r5, rfl, h⟩
    refine v_istore_n dX11_weight_21 rfl (by decide) rfl ?_
    refine v_ls (ls2 := [some (.ref 66), some (.int a1), some (.int r5)]) rfl ?_
    refine v_iload_n dX11_weight_22 rfl rfl ?_
    refine v_if_ge (tgt := 34) dX11_weight_23 (by decide) (fun c7 => ?_) (fun c7 => ?_)
    · have h := h.1 c7
      refine v_aload_n dX11_weight_34 rfl rfl ?_
      refine v_iload_n dX11_weight_35 rfl rfl ?_
      refine u_callV [.int r5] mX11_well iX11_well lX11_74 dX11_weight_36 sh_66 rfl rfl (by decide) ⟨rfl, rfl, id⟩ rfl rfl (Nat.le_of_ble_eq_true rfl) (Nat.le_of_ble_eq_true rfl) (v_X11_well r5 _ _ h) ?_
      rintro _ τ9 ⟨r8, rfl, h⟩
      exact u_iret dX11_weight_39 ⟨rfl, id⟩ h
    · have h := h.2 c7
      refine v_aload_n dX11_weight_26 rfl rfl ?_
      refine v_iconst (v := 1) dX11_weight_27 (by decide) ?_
      refine u_callV [.int (1 : Int32)] mX11_met iX11_met lX11_80 dX11_weight_28 sh_66 rfl rfl (by decide) ⟨rfl, rfl, id⟩ rfl rfl (Nat.le_of_ble_eq_true rfl) (Nat.le_of_ble_eq_true rfl) (v_X11_met (1 : Int32) _ _ h) ?_
      rintro _ τ11 ⟨r10, rfl, h⟩
      refine v_goto (tgt := 39) dX11_weight_31 (by decide) ?_
      exact u_iret dX11_weight_39 ⟨rfl, id⟩ h
  · have h := h.2 c3
    refine v_bipush (v := -2) dX11_weight_8 (by decide) ?_
    exact u_iret dX11_weight_10 ⟨rfl, id⟩ h
def T_X11_blanks (a1 : Int32) (τ : kT) (post : Int32 → kT → Prop) : Prop := (T_X11_in ((a1).toInt64) (0 : Int64) (100 : Int64) τ (fun r1 τ2 => ((¬ r1 = 0 → ((((q_i τ2 67 8527) + a1) ≤ (1000 : Int32) → (T_X11_change  τ2 (fun τ6 => (∀ τ7 : kT, τ7 = q_si τ6 67 8527 ((q_i τ6 67 8527) + a1) → post (q_i τ7 67 8527) τ7)))) ∧ (¬ ((q_i τ2 67 8527) + a1) ≤ (1000 : Int32) → post (-4 : Int32) τ2))) ∧ (r1 = 0 → post (-2 : Int32) τ2))))
set_option maxRecDepth 100000 in
set_option maxHeartbeats 4000000 in
theorem v_X11_blanks {d : Nat}  (a1 : Int32) (τ : kT) (post : Int32 → kT → Prop) (h : T_X11_blanks  a1 τ post) : U yX11_blanks cX11_blanks 2 (some .int) (d + 1) kE0 0 [some (.ref 66), some (.int a1)] [] τ (k_pi post) := by
  unfold T_X11_blanks at h
  refine v_iload_n dX11_blanks_0 rfl rfl ?_
  refine v_i2l dX11_blanks_1 ?_
  refine v_lconst (v := 0) dX11_blanks_2 (by decide) ?_
  refine v_ldc2 kX11_113 dX11_blanks_3 ?_
  refine u_callS [.long ((a1).toInt64), .long (0 : Int64), .long (100 : Int64)] mX11_in sX11_in lX11_67 dX11_blanks_6 ⟨rfl, rfl, id⟩ rfl rfl (Nat.le_of_ble_eq_true rfl) (Nat.le_of_ble_eq_true rfl) (v_X11_in ((a1).toInt64) (0 : Int64) (100 : Int64) _ _ h) ?_
  rintro _ τ2 ⟨r1, rfl, h⟩
  refine v_if_ne (tgt := 15) dX11_blanks_9 (by decide) (fun c3 => ?_) (fun c3 => ?_)
  · have h := h.1 c3
    refine v_aload_n dX11_blanks_15 rfl rfl ?_
    refine u_getr fX11_7 dX11_blanks_16 sh_66 rfl (by decide) (rf_66_0 _) ?_
    refine v_sipush (v := 8527) dX11_blanks_19 (by decide) ?_
    refine u_iald dX11_blanks_22 sh_67 (by decide) (by decide) rfl (by decide) ?_
    refine v_iload_n dX11_blanks_23 rfl rfl ?_
    refine v_iadd dX11_blanks_24 ?_
    refine v_sipush (v := 1000) dX11_blanks_25 (by decide) ?_
    refine v_icmp_le (tgt := 34) dX11_blanks_28 (by decide) (fun c4 => ?_) (fun c4 => ?_)
    · have h := h.1 c4
      refine v_aload_n dX11_blanks_34 rfl rfl ?_
      refine u_callV [] mX11_change iX11_change lX11_71 dX11_blanks_35 sh_66 rfl rfl (by decide) ⟨rfl, rfl, id⟩ rfl rfl (Nat.le_of_ble_eq_true rfl) (Nat.le_of_ble_eq_true rfl) (v_X11_change  _ _ h) ?_
      rintro _ τ6 ⟨rfl, h⟩
      refine v_aload_n dX11_blanks_38 rfl rfl ?_
      refine u_getr fX11_7 dX11_blanks_39 sh_66 rfl (by decide) (rf_66_0 _) ?_
      refine v_sipush (v := 8527) dX11_blanks_42 (by decide) ?_
      refine v_dup2 dX11_blanks_45 rfl rfl ?_
      refine u_iald dX11_blanks_46 sh_67 (by decide) (by decide) rfl (by decide) ?_
      refine v_iload_n dX11_blanks_47 rfl rfl ?_
      refine v_iadd dX11_blanks_48 ?_
      refine u_iast dX11_blanks_49 sh_67 (by decide) (by decide) rfl (by decide) (fun τ7 e_τ7 => ?_)
      have h := h τ7 e_τ7
      refine v_aload_n dX11_blanks_50 rfl rfl ?_
      refine u_getr fX11_7 dX11_blanks_51 sh_66 rfl (by decide) (rf_66_0 _) ?_
      refine v_sipush (v := 8527) dX11_blanks_54 (by decide) ?_
      refine u_iald dX11_blanks_57 sh_67 (by decide) (by decide) rfl (by decide) ?_
      exact u_iret dX11_blanks_58 ⟨rfl, id⟩ h
    · have h := h.2 c4
      refine v_bipush (v := -4) dX11_blanks_31 (by decide) ?_
      exact u_iret dX11_blanks_33 ⟨rfl, id⟩ h
  · have h := h.2 c3
    refine v_bipush (v := -2) dX11_blanks_12 (by decide) ?_
    exact u_iret dX11_blanks_14 ⟨rfl, id⟩ h
def L_X11_newKey_60  (f1 : Int32) (f2 : Int32) (K : Int32 → kT → Prop) (post : Int32 → kT → Prop) : Nat → Int32 → kT → Prop
  | 0, _, _ => False
  | n + 1, x3, τ => (((40 : Int32) ≤ x3 → K x3 τ) ∧ (¬ (40 : Int32) ≤ x3 → (∃ j11 : Nat, (((4504 : Int32) + ((40 : Int32) * f2)) + x3) = nI j11 ∧ j11 < 8530 ∧ (∀ τ12 : kT, τ12 = q_si τ 67 j11 (0 : Int32) → (∀ v13 : Int32, v13 = x3 + (1 : Int32) → L_X11_newKey_60 f1 f2 K post n v13 τ12)))))
def T_X11_newKey (a1 : Int32) (τ : kT) (post : Int32 → kT → Prop) : Prop := (T_X11_change  τ (fun τ2 => (∀ v3 : Int32, v3 = (q_i τ2 67 8523) → (∀ τ4 : kT, τ4 = q_si τ2 67 8523 (v3 + (1 : Int32)) → (∀ τ5 : kT, τ5 = q_si τ4 67 8527 ((q_i τ4 67 8527) - (1 : Int32)) → (∃ j6 : Nat, ((2200 : Int32) + v3) = nI j6 ∧ j6 < 8530 ∧ (∀ τ7 : kT, τ7 = q_si τ5 67 j6 a1 → (∃ j8 : Nat, ((4100 : Int32) + v3) = nI j8 ∧ j8 < 8530 ∧ (∀ τ9 : kT, τ9 = q_si τ7 67 j8 (-1 : Int32) → (∃ m14 : Nat, L_X11_newKey_60  a1 v3 (fun v15 τ16 => post v3 τ16) post m14 (0 : Int32) τ9))))))))))
set_option maxRecDepth 100000 in
set_option maxHeartbeats 4000000 in
theorem l_X11_newKey_60 {d : Nat}  (f1 : Int32) (f2 : Int32) {K : Int32 → kT → Prop} {post : Int32 → kT → Prop} (hK : ∀ (x3 : Int32) (τ : kT), K x3 τ → U yX11_newKey cX11_newKey 4 (some .int) (d + 1) kE0 88 [some (.ref 66), some (.int f1), some (.int f2), some (.int x3)] [] τ (k_pi post)) : ∀ (n : Nat) (x3 : Int32) (τ : kT), L_X11_newKey_60  f1 f2 K post n x3 τ → U yX11_newKey cX11_newKey 4 (some .int) (d + 1) kE0 60 [some (.ref 66), some (.int f1), some (.int f2), some (.int x3)] [] τ (k_pi post) := by
  intro n
  induction n with
  | zero => intro x3 τ h; exact h.elim
  | succ n ih =>
    intro x3 τ h
    unfold L_X11_newKey_60 at h
    refine v_iload_n dX11_newKey_60 rfl rfl ?_
    refine v_bipush (v := 40) dX11_newKey_61 (by decide) ?_
    refine v_icmp_ge (tgt := 88) dX11_newKey_63 (by decide) (fun c10 => ?_) (fun c10 => ?_)
    · have h := h.1 c10
      exact hK x3 _ h
    · have h := h.2 c10
      refine v_aload_n dX11_newKey_66 rfl rfl ?_
      refine u_getr fX11_7 dX11_newKey_67 sh_66 rfl (by decide) (rf_66_0 _) ?_
      refine v_sipush (v := 4504) dX11_newKey_70 (by decide) ?_
      refine v_bipush (v := 40) dX11_newKey_73 (by decide) ?_
      refine v_iload_n dX11_newKey_75 rfl rfl ?_
      refine v_imul dX11_newKey_76 ?_
      refine v_iadd dX11_newKey_77 ?_
      refine v_iload_n dX11_newKey_78 rfl rfl ?_
      refine v_iadd dX11_newKey_79 ?_
      refine v_iconst (v := 0) dX11_newKey_80 (by decide) ?_
      obtain ⟨j11, e_j11, l_j11, h⟩ := h
      refine u_iast dX11_newKey_81 sh_67 (by decide) (by decide) e_j11 l_j11 (fun τ12 e_τ12 => ?_)
      have h := h τ12 e_τ12
      obtain ⟨v13, e_v13⟩ : ∃ z : Int32, z = x3 + (1 : Int32) := ⟨_, rfl⟩
      have h := h v13 e_v13
      refine v_iinc (v := v13) dX11_newKey_82 rfl (by rw [e_v13]; rfl) (by decide) rfl ?_
      refine v_ls (ls2 := [some (.ref 66), some (.int f1), some (.int f2), some (.int v13)]) rfl ?_
      refine v_goto (tgt := 60) dX11_newKey_85 (by decide) ?_
      exact ih v13 _ h
set_option maxRecDepth 100000 in
set_option maxHeartbeats 4000000 in
theorem v_X11_newKey {d : Nat}  (a1 : Int32) (τ : kT) (post : Int32 → kT → Prop) (h : T_X11_newKey  a1 τ post) : U yX11_newKey cX11_newKey 4 (some .int) (d + 1) kE0 0 [some (.ref 66), some (.int a1), none, none] [] τ (k_pi post) := by
  unfold T_X11_newKey at h
  refine v_aload_n dX11_newKey_0 rfl rfl ?_
  refine u_callV [] mX11_change iX11_change lX11_71 dX11_newKey_1 sh_66 rfl rfl (by decide) ⟨rfl, rfl, id⟩ rfl rfl (Nat.le_of_ble_eq_true rfl) (Nat.le_of_ble_eq_true rfl) (v_X11_change  _ _ h) ?_
  rintro _ τ2 ⟨rfl, h⟩
  refine v_aload_n dX11_newKey_4 rfl rfl ?_
  refine u_getr fX11_7 dX11_newKey_5 sh_66 rfl (by decide) (rf_66_0 _) ?_
  refine v_sipush (v := 8523) dX11_newKey_8 (by decide) ?_
  refine u_iald dX11_newKey_11 sh_67 (by decide) (by decide) rfl (by decide) ?_
  refine v_topi (fun v3 e_v3 => ?_)
  have h := h v3 e_v3
  refine v_istore_n dX11_newKey_12 rfl (by decide) rfl ?_
  refine v_ls (ls2 := [some (.ref 66), some (.int a1), some (.int v3), none]) rfl ?_
  refine v_aload_n dX11_newKey_13 rfl rfl ?_
  refine u_getr fX11_7 dX11_newKey_14 sh_66 rfl (by decide) (rf_66_0 _) ?_
  refine v_sipush (v := 8523) dX11_newKey_17 (by decide) ?_
  refine v_iload_n dX11_newKey_20 rfl rfl ?_
  refine v_iconst (v := 1) dX11_newKey_21 (by decide) ?_
  refine v_iadd dX11_newKey_22 ?_
  refine u_iast dX11_newKey_23 sh_67 (by decide) (by decide) rfl (by decide) (fun τ4 e_τ4 => ?_)
  have h := h τ4 e_τ4
  refine v_aload_n dX11_newKey_24 rfl rfl ?_
  refine u_getr fX11_7 dX11_newKey_25 sh_66 rfl (by decide) (rf_66_0 _) ?_
  refine v_sipush (v := 8527) dX11_newKey_28 (by decide) ?_
  refine v_dup2 dX11_newKey_31 rfl rfl ?_
  refine u_iald dX11_newKey_32 sh_67 (by decide) (by decide) rfl (by decide) ?_
  refine v_iconst (v := 1) dX11_newKey_33 (by decide) ?_
  refine v_isub dX11_newKey_34 ?_
  refine u_iast dX11_newKey_35 sh_67 (by decide) (by decide) rfl (by decide) (fun τ5 e_τ5 => ?_)
  have h := h τ5 e_τ5
  refine v_aload_n dX11_newKey_36 rfl rfl ?_
  refine u_getr fX11_7 dX11_newKey_37 sh_66 rfl (by decide) (rf_66_0 _) ?_
  refine v_sipush (v := 2200) dX11_newKey_40 (by decide) ?_
  refine v_iload_n dX11_newKey_43 rfl rfl ?_
  refine v_iadd dX11_newKey_44 ?_
  refine v_iload_n dX11_newKey_45 rfl rfl ?_
  obtain ⟨j6, e_j6, l_j6, h⟩ := h
  refine u_iast dX11_newKey_46 sh_67 (by decide) (by decide) e_j6 l_j6 (fun τ7 e_τ7 => ?_)
  have h := h τ7 e_τ7
  refine v_aload_n dX11_newKey_47 rfl rfl ?_
  refine u_getr fX11_7 dX11_newKey_48 sh_66 rfl (by decide) (rf_66_0 _) ?_
  refine v_sipush (v := 4100) dX11_newKey_51 (by decide) ?_
  refine v_iload_n dX11_newKey_54 rfl rfl ?_
  refine v_iadd dX11_newKey_55 ?_
  refine v_iconst (v := -1) dX11_newKey_56 (by decide) ?_
  obtain ⟨j8, e_j8, l_j8, h⟩ := h
  refine u_iast dX11_newKey_57 sh_67 (by decide) (by decide) e_j8 l_j8 (fun τ9 e_τ9 => ?_)
  have h := h τ9 e_τ9
  refine v_iconst (v := 0) dX11_newKey_58 (by decide) ?_
  refine v_istore_n dX11_newKey_59 rfl (by decide) rfl ?_
  refine v_ls (ls2 := [some (.ref 66), some (.int a1), some (.int v3), some (.int (0 : Int32))]) rfl ?_
  obtain ⟨m14, h⟩ := h
  refine l_X11_newKey_60  a1 v3 (fun v15 τ16 h => ?_) m14 (0 : Int32) _ h
  refine v_iload_n dX11_newKey_88 rfl rfl ?_
  exact u_iret dX11_newKey_89 ⟨rfl, id⟩ h
def L_X11_key_83  (f1 : Int32) (f2 : Int64) (f4 : Int32) (K : Int64 → Int32 → kT → Prop) (post : Int32 → kT → Prop) : Nat → Int64 → Int32 → kT → Prop
  | 0, _, _, _ => False
  | n + 1, x5, x7, τ => ((f1 ≤ x7 → K x5 x7 τ) ∧ (¬ f1 ≤ x7 → (∃ j12 : Nat, (((2300 : Int32) + ((18 : Int32) * f4)) + x7) = nI j12 ∧ j12 < 8530 ∧ (∀ τ13 : kT, τ13 = q_si τ 67 j12 (((x5 - x5 / (10 : Int64) * (10 : Int64))).toInt32) → (∀ v14 : Int64, v14 = (x5 / (10 : Int64)) → (∀ v15 : Int32, v15 = x7 + (1 : Int32) → L_X11_key_83 f1 f2 f4 K post n v14 v15 τ13))))))
def T_X11_key (a1 : Int32) (a2 : Int64) (τ : kT) (post : Int32 → kT → Prop) : Prop := (((18 : Int32) < a1 → post (-2 : Int32) τ) ∧ (¬ (18 : Int32) < a1 → (T_X11_in a2 (0 : Int64) (999999999999999999 : Int64) τ (fun r2 τ3 => ((¬ r2 = 0 → ((¬ (q_i τ3 67 8523) = (100 : Int32) → ((¬ (q_i τ3 67 8527) = 0 → (∀ τ7 : kT, τ7 = q_si τ3 66 3 ((q_i τ3 66 3) + (1 : Int32)) → ((0 ≤ a1 → (T_X11_newKey a1 τ7 (fun r9 τ10 => (∃ m16 : Nat, L_X11_key_83  a1 a2 r9 (fun v17 v18 τ19 => (T_X11_well r9 τ19 (fun r20 τ21 => post r20 τ21))) post m16 a2 (0 : Int32) τ10)))) ∧ (¬ 0 ≤ a1 → (T_X11_met (5 : Int32) τ7 (fun r22 τ23 => post r22 τ23)))))) ∧ ((q_i τ3 67 8527) = 0 → post (-3 : Int32) τ3))) ∧ ((q_i τ3 67 8523) = (100 : Int32) → post (-4 : Int32) τ3))) ∧ (r2 = 0 → post (-2 : Int32) τ3))))))
set_option maxRecDepth 100000 in
set_option maxHeartbeats 4000000 in
theorem l_X11_key_83 {d : Nat}  (f1 : Int32) (f2 : Int64) (f4 : Int32) {K : Int64 → Int32 → kT → Prop} {post : Int32 → kT → Prop} (hK : ∀ (x5 : Int64) (x7 : Int32) (τ : kT), K x5 x7 τ → U yX11_key cX11_key 8 (some .int) (d + 2) kE0 127 [some (.ref 66), some (.int f1), some (.long f2), none, some (.int f4), some (.long x5), none, some (.int x7)] [] τ (k_pi post)) : ∀ (n : Nat) (x5 : Int64) (x7 : Int32) (τ : kT), L_X11_key_83  f1 f2 f4 K post n x5 x7 τ → U yX11_key cX11_key 8 (some .int) (d + 2) kE0 83 [some (.ref 66), some (.int f1), some (.long f2), none, some (.int f4), some (.long x5), none, some (.int x7)] [] τ (k_pi post) := by
  intro n
  induction n with
  | zero => intro x5 x7 τ h; exact h.elim
  | succ n ih =>
    intro x5 x7 τ h
    unfold L_X11_key_83 at h
    refine v_iload dX11_key_83 rfl ?_
    refine v_iload_n dX11_key_85 rfl rfl ?_
    refine v_icmp_ge (tgt := 127) dX11_key_86 (by decide) (fun c11 => ?_) (fun c11 => ?_)
    · have h := h.1 c11
      exact hK x5 x7 _ h
    · have h := h.2 c11
      refine v_aload_n dX11_key_89 rfl rfl ?_
      refine u_getr fX11_7 dX11_key_90 sh_66 rfl (by decide) (rf_66_0 _) ?_
      refine v_sipush (v := 2300) dX11_key_93 (by decide) ?_
      refine v_bipush (v := 18) dX11_key_96 (by decide) ?_
      refine v_iload dX11_key_98 rfl ?_
      refine v_imul dX11_key_100 ?_
      refine v_iadd dX11_key_101 ?_
      refine v_iload dX11_key_102 rfl ?_
      refine v_iadd dX11_key_104 ?_
      refine v_lload dX11_key_105 rfl ?_
      refine v_ldc2 kX11_123 dX11_key_107 ?_
      refine v_lrem dX11_key_110 (by decide) ?_
      refine v_l2i dX11_key_111 ?_
      obtain ⟨j12, e_j12, l_j12, h⟩ := h
      refine u_iast dX11_key_112 sh_67 (by decide) (by decide) e_j12 l_j12 (fun τ13 e_τ13 => ?_)
      have h := h τ13 e_τ13
      refine v_lload dX11_key_113 rfl ?_
      refine v_ldc2 kX11_123 dX11_key_115 ?_
      refine v_ldiv dX11_key_118 (by decide) ?_
      refine v_topl (fun v14 e_v14 => ?_)
      have h := h v14 e_v14
      refine v_lstore dX11_key_119 (by decide) rfl ?_
      refine v_ls (ls2 := [some (.ref 66), some (.int f1), some (.long f2), none, some (.int f4), some (.long v14), none, some (.int x7)]) rfl ?_
      obtain ⟨v15, e_v15⟩ : ∃ z : Int32, z = x7 + (1 : Int32) := ⟨_, rfl⟩
      have h := h v15 e_v15
      refine v_iinc (v := v15) dX11_key_121 rfl (by rw [e_v15]; rfl) (by decide) rfl ?_
      refine v_ls (ls2 := [some (.ref 66), some (.int f1), some (.long f2), none, some (.int f4), some (.long v14), none, some (.int v15)]) rfl ?_
      refine v_goto (tgt := 83) dX11_key_124 (by decide) ?_
      exact ih v14 v15 _ h
set_option maxRecDepth 100000 in
set_option maxHeartbeats 4000000 in
theorem v_X11_key {d : Nat}  (a1 : Int32) (a2 : Int64) (τ : kT) (post : Int32 → kT → Prop) (h : T_X11_key  a1 a2 τ post) : U yX11_key cX11_key 8 (some .int) (d + 2) kE0 0 [some (.ref 66), some (.int a1), some (.long a2), none, none, none, none, none] [] τ (k_pi post) := by
  unfold T_X11_key at h
  refine v_iload_n dX11_key_0 rfl rfl ?_
  refine v_bipush (v := 18) dX11_key_1 (by decide) ?_
  refine v_icmp_gt (tgt := 17) dX11_key_3 (by decide) (fun c1 => ?_) (fun c1 => ?_)
  · have h := h.1 c1
    refine v_bipush (v := -2) dX11_key_17 (by decide) ?_
    exact u_iret dX11_key_19 ⟨rfl, id⟩ h
  · have h := h.2 c1
    refine v_lload_n dX11_key_6 rfl rfl ?_
    refine v_lconst (v := 0) dX11_key_7 (by decide) ?_
    refine v_ldc2 kX11_115 dX11_key_8 ?_
    refine u_callS [.long a2, .long (0 : Int64), .long (999999999999999999 : Int64)] mX11_in sX11_in lX11_67 dX11_key_11 ⟨rfl, rfl, id⟩ rfl rfl (Nat.le_of_ble_eq_true rfl) (Nat.le_of_ble_eq_true rfl) (v_X11_in a2 (0 : Int64) (999999999999999999 : Int64) _ _ h) ?_
    rintro _ τ3 ⟨r2, rfl, h⟩
    refine v_if_ne (tgt := 20) dX11_key_14 (by decide) (fun c4 => ?_) (fun c4 => ?_)
    · have h := h.1 c4
      refine v_aload_n dX11_key_20 rfl rfl ?_
      refine u_getr fX11_7 dX11_key_21 sh_66 rfl (by decide) (rf_66_0 _) ?_
      refine v_sipush (v := 8523) dX11_key_24 (by decide) ?_
      refine u_iald dX11_key_27 sh_67 (by decide) (by decide) rfl (by decide) ?_
      refine v_bipush (v := 100) dX11_key_28 (by decide) ?_
      refine v_icmp_ne (tgt := 36) dX11_key_30 (by decide) (fun c5 => ?_) (fun c5 => ?_)
      · have h := h.1 c5
        refine v_aload_n dX11_key_36 rfl rfl ?_
        refine u_getr fX11_7 dX11_key_37 sh_66 rfl (by decide) (rf_66_0 _) ?_
        refine v_sipush (v := 8527) dX11_key_40 (by decide) ?_
        refine u_iald dX11_key_43 sh_67 (by decide) (by decide) rfl (by decide) ?_
        refine v_if_ne (tgt := 50) dX11_key_44 (by decide) (fun c6 => ?_) (fun c6 => ?_)
        · have h := h.1 c6
          refine v_aload_n dX11_key_50 rfl rfl ?_
          refine v_dup dX11_key_51 rfl ?_
          refine u_geti fX11_117 dX11_key_52 sh_66 rfl (by decide) ?_
          refine v_iconst (v := 1) dX11_key_55 (by decide) ?_
          refine v_iadd dX11_key_56 ?_
          refine u_puti pX11_117 ⟨_, rfl⟩ dX11_key_57 sh_66 rfl (by decide) (by decide) (fun τ7 e_τ7 => ?_)
          have h := h τ7 e_τ7
          refine v_iload_n dX11_key_60 rfl rfl ?_
          refine v_if_ge (tgt := 70) dX11_key_61 (by decide) (fun c8 => ?_) (fun c8 => ?_)
          · have h := h.1 c8
            refine v_aload_n dX11_key_70 rfl rfl ?_
            refine v_iload_n dX11_key_71 rfl rfl ?_
            refine u_callV [.int a1] mX11_newKey iX11_newKey lX11_120 dX11_key_72 sh_66 rfl rfl (by decide) ⟨rfl, rfl, id⟩ rfl rfl (Nat.le_of_ble_eq_true rfl) (Nat.le_of_ble_eq_true rfl) (v_X11_newKey a1 _ _ h) ?_
            rintro _ τ10 ⟨r9, rfl, h⟩
            refine v_istore dX11_key_75 (by decide) rfl ?_
            refine v_ls (ls2 := [some (.ref 66), some (.int a1), some (.long a2), none, some (.int r9), none, none, none]) rfl ?_
            refine v_lload_n dX11_key_77 rfl rfl ?_
            refine v_lstore dX11_key_78 (by decide) rfl ?_
            refine v_ls (ls2 := [some (.ref 66), some (.int a1), some (.long a2), none, some (.int r9), some (.long a2), none, none]) rfl ?_
            refine v_iconst (v := 0) dX11_key_80 (by decide) ?_
            refine v_istore dX11_key_81 (by decide) rfl ?_
            refine v_ls (ls2 := [some (.ref 66), some (.int a1), some (.long a2), none, some (.int r9), some (.long a2), none, some (.int (0 : Int32))]) rfl ?_
            obtain ⟨m16, h⟩ := h
            refine l_X11_key_83  a1 a2 r9 (fun v17 v18 τ19 h => ?_) m16 a2 (0 : Int32) _ h
            refine v_aload_n dX11_key_127 rfl rfl ?_
            refine v_iload dX11_key_128 rfl ?_
            refine u_callV [.int r9] mX11_well iX11_well lX11_74 dX11_key_130 sh_66 rfl rfl (by decide) ⟨rfl, rfl, id⟩ rfl rfl (Nat.le_of_ble_eq_true rfl) (Nat.le_of_ble_eq_true rfl) (v_X11_well r9 _ _ h) ?_
            rintro _ τ21 ⟨r20, rfl, h⟩
            exact u_iret dX11_key_133 ⟨rfl, id⟩ h
          · have h := h.2 c8
            refine v_aload_n dX11_key_64 rfl rfl ?_
            refine v_iconst (v := 5) dX11_key_65 (by decide) ?_
            refine u_callV [.int (5 : Int32)] mX11_met iX11_met lX11_80 dX11_key_66 sh_66 rfl rfl (by decide) ⟨rfl, rfl, id⟩ rfl rfl (Nat.le_of_ble_eq_true rfl) (Nat.le_of_ble_eq_true rfl) (v_X11_met (5 : Int32) _ _ h) ?_
            rintro _ τ23 ⟨r22, rfl, h⟩
            exact u_iret dX11_key_69 ⟨rfl, id⟩ h
        · have h := h.2 c6
          refine v_bipush (v := -3) dX11_key_47 (by decide) ?_
          exact u_iret dX11_key_49 ⟨rfl, id⟩ h
      · have h := h.2 c5
        refine v_bipush (v := -4) dX11_key_33 (by decide) ?_
        exact u_iret dX11_key_35 ⟨rfl, id⟩ h
    · have h := h.2 c4
      refine v_bipush (v := -2) dX11_key_17 (by decide) ?_
      exact u_iret dX11_key_19 ⟨rfl, id⟩ h
def T_X11_isKey (a1 : Int32) (τ : kT) (post : Int32 → kT → Prop) : Prop := (T_X11_in ((a1).toInt64) (0 : Int64) ((((q_i τ 67 8523) - (1 : Int32))).toInt64) τ (fun r1 τ2 => ((r1 = 0 ∨ r1 = 1) ∧ post r1 τ2)))
set_option maxRecDepth 100000 in
set_option maxHeartbeats 4000000 in
theorem v_X11_isKey {d : Nat}  (a1 : Int32) (τ : kT) (post : Int32 → kT → Prop) (h : T_X11_isKey  a1 τ post) : U yX11_isKey cX11_isKey 2 (some .boolean) (d + 1) kE0 0 [some (.ref 66), some (.int a1)] [] τ (k_pi post) := by
  unfold T_X11_isKey at h
  refine v_iload_n dX11_isKey_0 rfl rfl ?_
  refine v_i2l dX11_isKey_1 ?_
  refine v_lconst (v := 0) dX11_isKey_2 (by decide) ?_
  refine v_aload_n dX11_isKey_3 rfl rfl ?_
  refine u_getr fX11_7 dX11_isKey_4 sh_66 rfl (by decide) (rf_66_0 _) ?_
  refine v_sipush (v := 8523) dX11_isKey_7 (by decide) ?_
  refine u_iald dX11_isKey_10 sh_67 (by decide) (by decide) rfl (by decide) ?_
  refine v_iconst (v := 1) dX11_isKey_11 (by decide) ?_
  refine v_isub dX11_isKey_12 ?_
  refine v_i2l dX11_isKey_13 ?_
  refine u_callS [.long ((a1).toInt64), .long (0 : Int64), .long ((((q_i τ 67 8523) - (1 : Int32))).toInt64)] mX11_in sX11_in lX11_67 dX11_isKey_14 ⟨rfl, rfl, id⟩ rfl rfl (Nat.le_of_ble_eq_true rfl) (Nat.le_of_ble_eq_true rfl) (v_X11_in ((a1).toInt64) (0 : Int64) ((((q_i τ 67 8523) - (1 : Int32))).toInt64) _ _ h) ?_
  rintro _ τ2 ⟨r1, rfl, h⟩
  exact u_zret dX11_isKey_17 (k_nz h.1) ⟨rfl, id⟩ h.2
def L_X11_turned_98  (f1 : Int32) (f2 : Int32) (f3 : Int32) (K : Int32 → kT → Prop) (post : Int32 → kT → Prop) : Nat → Int32 → kT → Prop
  | 0, _, _ => False
  | n + 1, x4, τ => ((f2 ≤ x4 → K x4 τ) ∧ (¬ f2 ≤ x4 → (∃ j19 : Nat, (((((2300 : Int32) + ((18 : Int32) * f1)) + f2) - (1 : Int32)) - x4) = nI j19 ∧ j19 < 8530 ∧ (∃ j20 : Nat, (((2300 : Int32) + ((18 : Int32) * f3)) + x4) = nI j20 ∧ j20 < 8530 ∧ (∀ τ21 : kT, τ21 = q_si τ 67 j20 (q_i τ 67 j19) → (∀ v22 : Int32, v22 = x4 + (1 : Int32) → L_X11_turned_98 f1 f2 f3 K post n v22 τ21))))))
def T_X11_turned (a1 : Int32) (a2 : Int32) (τ : kT) (post : Int32 → kT → Prop) : Prop := (T_X11_isKey a1 τ (fun r1 τ2 => ((r1 = 0 → post (-2 : Int32) τ2) ∧ (¬ r1 = 0 → ((a2 ≤ (18 : Int32) → ((¬ (q_i τ2 67 8523) = (100 : Int32) → ((¬ (q_i τ2 67 8527) = 0 → (∀ τ7 : kT, τ7 = q_si τ2 66 3 ((q_i τ2 66 3) + (1 : Int32)) → ((a2 < 0 → ((0 ≤ a2 → (T_X11_met (2 : Int32) τ7 (fun r10 τ11 => post r10 τ11))) ∧ (¬ 0 ≤ a2 → (T_X11_met (5 : Int32) τ7 (fun r12 τ13 => post r12 τ13))))) ∧ (¬ a2 < 0 → (∃ j14 : Nat, ((2200 : Int32) + a1) = nI j14 ∧ j14 < 8530 ∧ ((a2 ≤ (q_i τ7 67 j14) → (T_X11_newKey a2 τ7 (fun r16 τ17 => (∃ m23 : Nat, L_X11_turned_98  a1 a2 r16 (fun v24 τ25 => (T_X11_well r16 τ25 (fun r26 τ27 => post r26 τ27))) post m23 (0 : Int32) τ17)))) ∧ (¬ a2 ≤ (q_i τ7 67 j14) → ((0 ≤ a2 → (T_X11_met (2 : Int32) τ7 (fun r29 τ30 => post r29 τ30))) ∧ (¬ 0 ≤ a2 → (T_X11_met (5 : Int32) τ7 (fun r31 τ32 => post r31 τ32))))))))))) ∧ ((q_i τ2 67 8527) = 0 → post (-3 : Int32) τ2))) ∧ ((q_i τ2 67 8523) = (100 : Int32) → post (-4 : Int32) τ2))) ∧ (¬ a2 ≤ (18 : Int32) → post (-2 : Int32) τ2))))))
set_option maxRecDepth 100000 in
set_option maxHeartbeats 4000000 in
theorem l_X11_turned_98 {d : Nat}  (f1 : Int32) (f2 : Int32) (f3 : Int32) {K : Int32 → kT → Prop} {post : Int32 → kT → Prop} (hK : ∀ (x4 : Int32) (τ : kT), K x4 τ → U yX11_turned cX11_turned 5 (some .int) (d + 2) kE0 146 [some (.ref 66), some (.int f1), some (.int f2), some (.int f3), some (.int x4)] [] τ (k_pi post)) : ∀ (n : Nat) (x4 : Int32) (τ : kT), L_X11_turned_98  f1 f2 f3 K post n x4 τ → U yX11_turned cX11_turned 5 (some .int) (d + 2) kE0 98 [some (.ref 66), some (.int f1), some (.int f2), some (.int f3), some (.int x4)] [] τ (k_pi post) := by
  intro n
  induction n with
  | zero => intro x4 τ h; exact h.elim
  | succ n ih =>
    intro x4 τ h
    unfold L_X11_turned_98 at h
    refine v_iload dX11_turned_98 rfl ?_
    refine v_iload_n dX11_turned_100 rfl rfl ?_
    refine v_icmp_ge (tgt := 146) dX11_turned_101 (by decide) (fun c18 => ?_) (fun c18 => ?_)
    · have h := h.1 c18
      exact hK x4 _ h
    · have h := h.2 c18
      refine v_aload_n dX11_turned_104 rfl rfl ?_
      refine u_getr fX11_7 dX11_turned_105 sh_66 rfl (by decide) (rf_66_0 _) ?_
      refine v_sipush (v := 2300) dX11_turned_108 (by decide) ?_
      refine v_bipush (v := 18) dX11_turned_111 (by decide) ?_
      refine v_iload_n dX11_turned_113 rfl rfl ?_
      refine v_imul dX11_turned_114 ?_
      refine v_iadd dX11_turned_115 ?_
      refine v_iload dX11_turned_116 rfl ?_
      refine v_iadd dX11_turned_118 ?_
      refine v_aload_n dX11_turned_119 rfl rfl ?_
      refine u_getr fX11_7 dX11_turned_120 sh_66 rfl (by decide) (rf_66_0 _) ?_
      refine v_sipush (v := 2300) dX11_turned_123 (by decide) ?_
      refine v_bipush (v := 18) dX11_turned_126 (by decide) ?_
      refine v_iload_n dX11_turned_128 rfl rfl ?_
      refine v_imul dX11_turned_129 ?_
      refine v_iadd dX11_turned_130 ?_
      refine v_iload_n dX11_turned_131 rfl rfl ?_
      refine v_iadd dX11_turned_132 ?_
      refine v_iconst (v := 1) dX11_turned_133 (by decide) ?_
      refine v_isub dX11_turned_134 ?_
      refine v_iload dX11_turned_135 rfl ?_
      refine v_isub dX11_turned_137 ?_
      obtain ⟨j19, e_j19, l_j19, h⟩ := h
      refine u_iald dX11_turned_138 sh_67 (by decide) (by decide) e_j19 l_j19 ?_
      obtain ⟨j20, e_j20, l_j20, h⟩ := h
      refine u_iast dX11_turned_139 sh_67 (by decide) (by decide) e_j20 l_j20 (fun τ21 e_τ21 => ?_)
      have h := h τ21 e_τ21
      obtain ⟨v22, e_v22⟩ : ∃ z : Int32, z = x4 + (1 : Int32) := ⟨_, rfl⟩
      have h := h v22 e_v22
      refine v_iinc (v := v22) dX11_turned_140 rfl (by rw [e_v22]; rfl) (by decide) rfl ?_
      refine v_ls (ls2 := [some (.ref 66), some (.int f1), some (.int f2), some (.int f3), some (.int v22)]) rfl ?_
      refine v_goto (tgt := 98) dX11_turned_143 (by decide) ?_
      exact ih v22 _ h
set_option maxRecDepth 100000 in
set_option maxHeartbeats 4000000 in
theorem v_X11_turned {d : Nat}  (a1 : Int32) (a2 : Int32) (τ : kT) (post : Int32 → kT → Prop) (h : T_X11_turned  a1 a2 τ post) : U yX11_turned cX11_turned 5 (some .int) (d + 2) kE0 0 [some (.ref 66), some (.int a1), some (.int a2), none, none] [] τ (k_pi post) := by
  unfold T_X11_turned at h
  refine v_aload_n dX11_turned_0 rfl rfl ?_
  refine v_iload_n dX11_turned_1 rfl rfl ?_
  refine u_callV [.int a1] mX11_isKey iX11_isKey lX11_125 dX11_turned_2 sh_66 rfl rfl (by decide) ⟨rfl, rfl, id⟩ rfl rfl (Nat.le_of_ble_eq_true rfl) (Nat.le_of_ble_eq_true rfl) (v_X11_isKey a1 _ _ h) ?_
  rintro _ τ2 ⟨r1, rfl, h⟩
  refine v_if_eq (tgt := 14) dX11_turned_5 (by decide) (fun c3 => ?_) (fun c3 => ?_)
  · have h := h.1 c3
    refine v_bipush (v := -2) dX11_turned_14 (by decide) ?_
    exact u_iret dX11_turned_16 ⟨rfl, id⟩ h
  · have h := h.2 c3
    refine v_iload_n dX11_turned_8 rfl rfl ?_
    refine v_bipush (v := 18) dX11_turned_9 (by decide) ?_
    refine v_icmp_le (tgt := 17) dX11_turned_11 (by decide) (fun c4 => ?_) (fun c4 => ?_)
    · have h := h.1 c4
      refine v_aload_n dX11_turned_17 rfl rfl ?_
      refine u_getr fX11_7 dX11_turned_18 sh_66 rfl (by decide) (rf_66_0 _) ?_
      refine v_sipush (v := 8523) dX11_turned_21 (by decide) ?_
      refine u_iald dX11_turned_24 sh_67 (by decide) (by decide) rfl (by decide) ?_
      refine v_bipush (v := 100) dX11_turned_25 (by decide) ?_
      refine v_icmp_ne (tgt := 33) dX11_turned_27 (by decide) (fun c5 => ?_) (fun c5 => ?_)
      · have h := h.1 c5
        refine v_aload_n dX11_turned_33 rfl rfl ?_
        refine u_getr fX11_7 dX11_turned_34 sh_66 rfl (by decide) (rf_66_0 _) ?_
        refine v_sipush (v := 8527) dX11_turned_37 (by decide) ?_
        refine u_iald dX11_turned_40 sh_67 (by decide) (by decide) rfl (by decide) ?_
        refine v_if_ne (tgt := 47) dX11_turned_41 (by decide) (fun c6 => ?_) (fun c6 => ?_)
        · have h := h.1 c6
          refine v_aload_n dX11_turned_47 rfl rfl ?_
          refine v_dup dX11_turned_48 rfl ?_
          refine u_geti fX11_117 dX11_turned_49 sh_66 rfl (by decide) ?_
          refine v_iconst (v := 1) dX11_turned_52 (by decide) ?_
          refine v_iadd dX11_turned_53 ?_
          refine u_puti pX11_117 ⟨_, rfl⟩ dX11_turned_54 sh_66 rfl (by decide) (by decide) (fun τ7 e_τ7 => ?_)
          have h := h τ7 e_τ7
          refine v_iload_n dX11_turned_57 rfl rfl ?_
          refine v_if_lt (tgt := 75) dX11_turned_58 (by decide) (fun c8 => ?_) (fun c8 => ?_)
          · have h := h.1 c8
            refine v_aload_n dX11_turned_75 rfl rfl ?_
            refine v_iload_n dX11_turned_76 rfl rfl ?_
            refine v_if_ge (tgt := 84) dX11_turned_77 (by decide) (fun c9 => ?_) (fun c9 => ?_)
            · have h := h.1 c9
              refine v_iconst (v := 2) dX11_turned_84 (by decide) ?_
              refine u_callV [.int (2 : Int32)] mX11_met iX11_met lX11_80 dX11_turned_85 sh_66 rfl rfl (by decide) ⟨rfl, rfl, id⟩ rfl rfl (Nat.le_of_ble_eq_true rfl) (Nat.le_of_ble_eq_true rfl) (v_X11_met (2 : Int32) _ _ h) ?_
              rintro _ τ11 ⟨r10, rfl, h⟩
              exact u_iret dX11_turned_88 ⟨rfl, id⟩ h
            · have h := h.2 c9
              refine v_iconst (v := 5) dX11_turned_80 (by decide) ?_
              refine v_goto (tgt := 85) dX11_turned_81 (by decide) ?_
              refine u_callV [.int (5 : Int32)] mX11_met iX11_met lX11_80 dX11_turned_85 sh_66 rfl rfl (by decide) ⟨rfl, rfl, id⟩ rfl rfl (Nat.le_of_ble_eq_true rfl) (Nat.le_of_ble_eq_true rfl) (v_X11_met (5 : Int32) _ _ h) ?_
              rintro _ τ13 ⟨r12, rfl, h⟩
              exact u_iret dX11_turned_88 ⟨rfl, id⟩ h
          · have h := h.2 c8
            refine v_iload_n dX11_turned_61 rfl rfl ?_
            refine v_aload_n dX11_turned_62 rfl rfl ?_
            refine u_getr fX11_7 dX11_turned_63 sh_66 rfl (by decide) (rf_66_0 _) ?_
            refine v_sipush (v := 2200) dX11_turned_66 (by decide) ?_
            refine v_iload_n dX11_turned_69 rfl rfl ?_
            refine v_iadd dX11_turned_70 ?_
            obtain ⟨j14, e_j14, l_j14, h⟩ := h
            refine u_iald dX11_turned_71 sh_67 (by decide) (by decide) e_j14 l_j14 ?_
            refine v_icmp_le (tgt := 89) dX11_turned_72 (by decide) (fun c15 => ?_) (fun c15 => ?_)
            · have h := h.1 c15
              refine v_aload_n dX11_turned_89 rfl rfl ?_
              refine v_iload_n dX11_turned_90 rfl rfl ?_
              refine u_callV [.int a2] mX11_newKey iX11_newKey lX11_120 dX11_turned_91 sh_66 rfl rfl (by decide) ⟨rfl, rfl, id⟩ rfl rfl (Nat.le_of_ble_eq_true rfl) (Nat.le_of_ble_eq_true rfl) (v_X11_newKey a2 _ _ h) ?_
              rintro _ τ17 ⟨r16, rfl, h⟩
              refine v_istore_n dX11_turned_94 rfl (by decide) rfl ?_
              refine v_ls (ls2 := [some (.ref 66), some (.int a1), some (.int a2), some (.int r16), none]) rfl ?_
              refine v_iconst (v := 0) dX11_turned_95 (by decide) ?_
              refine v_istore dX11_turned_96 (by decide) rfl ?_
              refine v_ls (ls2 := [some (.ref 66), some (.int a1), some (.int a2), some (.int r16), some (.int (0 : Int32))]) rfl ?_
              obtain ⟨m23, h⟩ := h
              refine l_X11_turned_98  a1 a2 r16 (fun v24 τ25 h => ?_) m23 (0 : Int32) _ h
              refine v_aload_n dX11_turned_146 rfl rfl ?_
              refine v_iload_n dX11_turned_147 rfl rfl ?_
              refine u_callV [.int r16] mX11_well iX11_well lX11_74 dX11_turned_148 sh_66 rfl rfl (by decide) ⟨rfl, rfl, id⟩ rfl rfl (Nat.le_of_ble_eq_true rfl) (Nat.le_of_ble_eq_true rfl) (v_X11_well r16 _ _ h) ?_
              rintro _ τ27 ⟨r26, rfl, h⟩
              exact u_iret dX11_turned_151 ⟨rfl, id⟩ h
            · have h := h.2 c15
              refine v_aload_n dX11_turned_75 rfl rfl ?_
              refine v_iload_n dX11_turned_76 rfl rfl ?_
              refine v_if_ge (tgt := 84) dX11_turned_77 (by decide) (fun c28 => ?_) (fun c28 => ?_)
              · have h := h.1 c28
                refine v_iconst (v := 2) dX11_turned_84 (by decide) ?_
                refine u_callV [.int (2 : Int32)] mX11_met iX11_met lX11_80 dX11_turned_85 sh_66 rfl rfl (by decide) ⟨rfl, rfl, id⟩ rfl rfl (Nat.le_of_ble_eq_true rfl) (Nat.le_of_ble_eq_true rfl) (v_X11_met (2 : Int32) _ _ h) ?_
                rintro _ τ30 ⟨r29, rfl, h⟩
                exact u_iret dX11_turned_88 ⟨rfl, id⟩ h
              · have h := h.2 c28
                refine v_iconst (v := 5) dX11_turned_80 (by decide) ?_
                refine v_goto (tgt := 85) dX11_turned_81 (by decide) ?_
                refine u_callV [.int (5 : Int32)] mX11_met iX11_met lX11_80 dX11_turned_85 sh_66 rfl rfl (by decide) ⟨rfl, rfl, id⟩ rfl rfl (Nat.le_of_ble_eq_true rfl) (Nat.le_of_ble_eq_true rfl) (v_X11_met (5 : Int32) _ _ h) ?_
                rintro _ τ32 ⟨r31, rfl, h⟩
                exact u_iret dX11_turned_88 ⟨rfl, id⟩ h
        · have h := h.2 c6
          refine v_bipush (v := -3) dX11_turned_44 (by decide) ?_
          exact u_iret dX11_turned_46 ⟨rfl, id⟩ h
      · have h := h.2 c5
        refine v_bipush (v := -4) dX11_turned_30 (by decide) ?_
        exact u_iret dX11_turned_32 ⟨rfl, id⟩ h
    · have h := h.2 c4
      refine v_bipush (v := -2) dX11_turned_14 (by decide) ?_
      exact u_iret dX11_turned_16 ⟨rfl, id⟩ h
