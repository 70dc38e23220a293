def T_X10_person  (τ : kT) (post : Int32 → kT → Prop) : Prop := (((q_i τ 1 5) < (40 : Int32) → (T_X10_remember  τ (fun τ3 => (∀ τ4 : kT, τ4 = q_si τ3 1 5 ((q_i τ3 1 5) + (1 : Int32)) → post ((q_i τ4 1 5) - (1 : Int32)) τ4)))) ∧ (¬ (q_i τ 1 5) < (40 : Int32) → post (-4 : Int32) τ))
set_option maxRecDepth 100000 in
set_option maxHeartbeats 4000000 in
theorem v_X10_person {d : Nat}   (τ : kT) (post : Int32 → kT → Prop) (h : T_X10_person   τ post) : U yX10_person cX10_person 1 (some .int) (d + 4) kE0 0 [some (.ref 0)] [] τ (k_pi post) := by
  unfold T_X10_person at h
  refine v_aload_n dX10_person_0 rfl rfl ?_
  refine u_getr fX10_10 dX10_person_1 sh_0 rfl (by decide) (rf_0_0 _) ?_
  refine u_geti fX10_268 dX10_person_4 sh_1 rfl (by decide) ?_
  refine v_bipush (v := 40) dX10_person_7 (by decide) ?_
  refine v_icmp_lt (tgt := 15) dX10_person_9 (by decide) (fun c1 => ?_) (fun c1 => ?_)
  · have h := h.1 c1
    refine v_aload_n dX10_person_15 rfl rfl ?_
    refine u_callV [] mX10_remember iX10_remember lX10_81 dX10_person_16 sh_0 rfl rfl (by decide) ⟨rfl, rfl, id⟩ rfl rfl (Nat.le_of_ble_eq_true rfl) (Nat.le_of_ble_eq_true rfl) (v_X10_remember  _ _ h) ?_
    rintro _ τ3 ⟨rfl, h⟩
    refine v_aload_n dX10_person_19 rfl rfl ?_
    refine u_getr fX10_10 dX10_person_20 sh_0 rfl (by decide) (rf_0_0 _) ?_
    refine v_dup dX10_person_23 rfl ?_
    refine u_geti fX10_268 dX10_person_24 sh_1 rfl (by decide) ?_
    refine v_iconst (v := 1) dX10_person_27 (by decide) ?_
    refine v_iadd dX10_person_28 ?_
    refine u_puti pX10_268 ⟨_, rfl⟩ dX10_person_29 sh_1 rfl (by decide) (by decide) (fun τ4 e_τ4 => ?_)
    have h := h τ4 e_τ4
    refine v_aload_n dX10_person_32 rfl rfl ?_
    refine u_getr fX10_10 dX10_person_33 sh_0 rfl (by decide) (rf_0_0 _) ?_
    refine u_geti fX10_268 dX10_person_36 sh_1 rfl (by decide) ?_
    refine v_iconst (v := 1) dX10_person_39 (by decide) ?_
    refine v_isub dX10_person_40 ?_
    exact u_iret dX10_person_41 ⟨rfl, id⟩ h
  · have h := h.2 c1
    refine v_bipush (v := -4) dX10_person_12 (by decide) ?_
    exact u_iret dX10_person_14 ⟨rfl, id⟩ h
def L_X5_heldBy_4  (f1 : Int32) (K : Int32 → Int32 → kT → Prop) (post : Int32 → kT → Prop) : Nat → Int32 → Int32 → kT → Prop
  | 0, _, _, _ => False
  | n + 1, x2, x3, τ => (((q_i τ 9 5) ≤ x3 → K x2 x3 τ) ∧ (¬ (q_i τ 9 5) ≤ x3 → (∃ j2 : Nat, x3 = nI j2 ∧ j2 < 100 ∧ ((¬ (q_i τ 12 j2) = f1 → (∀ v4 : Int32, v4 = x3 + (1 : Int32) → L_X5_heldBy_4 f1 K post n x2 v4 τ)) ∧ ((q_i τ 12 j2) = f1 → (∀ v5 : Int32, v5 = x2 + (1 : Int32) → (∀ v6 : Int32, v6 = x3 + (1 : Int32) → L_X5_heldBy_4 f1 K post n v5 v6 τ)))))))
def T_X5_heldBy (a1 : Int32) (τ : kT) (post : Int32 → kT → Prop) : Prop := (∃ m7 : Nat, L_X5_heldBy_4  a1 (fun v8 v9 τ10 => post v8 τ10) post m7 (0 : Int32) (0 : Int32) τ)
set_option maxRecDepth 100000 in
set_option maxHeartbeats 4000000 in
theorem l_X5_heldBy_4 {d : Nat}  (f1 : Int32) {K : Int32 → Int32 → kT → Prop} {post : Int32 → kT → Prop} (hK : ∀ (x2 : Int32) (x3 : Int32) (τ : kT), K x2 x3 τ → U yX5_heldBy cX5_heldBy 4 (some .int) (d + 0) kE0 31 [some (.ref 9), some (.int f1), some (.int x2), some (.int x3)] [] τ (k_pi post)) : ∀ (n : Nat) (x2 : Int32) (x3 : Int32) (τ : kT), L_X5_heldBy_4  f1 K post n x2 x3 τ → U yX5_heldBy cX5_heldBy 4 (some .int) (d + 0) kE0 4 [some (.ref 9), some (.int f1), some (.int x2), some (.int x3)] [] τ (k_pi post) := by
  intro n
  induction n with
  | zero => intro x2 x3 τ h; exact h.elim
  | succ n ih =>
    intro x2 x3 τ h
    unfold L_X5_heldBy_4 at h
    refine v_iload_n dX5_heldBy_4 rfl rfl ?_
    refine v_aload_n dX5_heldBy_5 rfl rfl ?_
    refine u_geti fX5_28 dX5_heldBy_6 sh_9 rfl (by decide) ?_
    refine v_icmp_ge (tgt := 31) dX5_heldBy_9 (by decide) (fun c1 => ?_) (fun c1 => ?_)
    · have h := h.1 c1
      exact hK x2 x3 _ h
    · have h := h.2 c1
      refine v_aload_n dX5_heldBy_12 rfl rfl ?_
      refine u_getr fX5_18 dX5_heldBy_13 sh_9 rfl (by decide) (rf_9_2 _) ?_
      refine v_iload_n dX5_heldBy_16 rfl rfl ?_
      obtain ⟨j2, e_j2, l_j2, h⟩ := h
      refine u_iald dX5_heldBy_17 sh_12 (by decide) (by decide) e_j2 l_j2 ?_
      refine v_iload_n dX5_heldBy_18 rfl rfl ?_
      refine v_icmp_ne (tgt := 25) dX5_heldBy_19 (by decide) (fun c3 => ?_) (fun c3 => ?_)
      · have h := h.1 c3
        obtain ⟨v4, e_v4⟩ : ∃ z : Int32, z = x3 + (1 : Int32) := ⟨_, rfl⟩
        have h := h v4 e_v4
        refine v_iinc (v := v4) dX5_heldBy_25 rfl (by rw [e_v4]; rfl) (by decide) rfl ?_
        refine v_ls (ls2 := [some (.ref 9), some (.int f1), some (.int x2), some (.int v4)]) rfl ?_
        refine v_goto (tgt := 4) dX5_heldBy_28 (by decide) ?_
        exact ih x2 v4 _ h
      · have h := h.2 c3
        obtain ⟨v5, e_v5⟩ : ∃ z : Int32, z = x2 + (1 : Int32) := ⟨_, rfl⟩
        have h := h v5 e_v5
        refine v_iinc (v := v5) dX5_heldBy_22 rfl (by rw [e_v5]; rfl) (by decide) rfl ?_
        refine v_ls (ls2 := [some (.ref 9), some (.int f1), some (.int v5), some (.int x3)]) rfl ?_
        obtain ⟨v6, e_v6⟩ : ∃ z : Int32, z = x3 + (1 : Int32) := ⟨_, rfl⟩
        have h := h v6 e_v6
        refine v_iinc (v := v6) dX5_heldBy_25 rfl (by rw [e_v6]; rfl) (by decide) rfl ?_
        refine v_ls (ls2 := [some (.ref 9), some (.int f1), some (.int v5), some (.int v6)]) rfl ?_
        refine v_goto (tgt := 4) dX5_heldBy_28 (by decide) ?_
        exact ih v5 v6 _ h
set_option maxRecDepth 100000 in
set_option maxHeartbeats 4000000 in
theorem v_X5_heldBy {d : Nat}  (a1 : Int32) (τ : kT) (post : Int32 → kT → Prop) (h : T_X5_heldBy  a1 τ post) : U yX5_heldBy cX5_heldBy 4 (some .int) (d + 0) kE0 0 [some (.ref 9), some (.int a1), none, none] [] τ (k_pi post) := by
  unfold T_X5_heldBy at h
  refine v_iconst (v := 0) dX5_heldBy_0 (by decide) ?_
  refine v_istore_n dX5_heldBy_1 rfl (by decide) rfl ?_
  refine v_ls (ls2 := [some (.ref 9), some (.int a1), some (.int (0 : Int32)), none]) rfl ?_
  refine v_iconst (v := 0) dX5_heldBy_2 (by decide) ?_
  refine v_istore_n dX5_heldBy_3 rfl (by decide) rfl ?_
  refine v_ls (ls2 := [some (.ref 9), some (.int a1), some (.int (0 : Int32)), some (.int (0 : Int32))]) rfl ?_
  obtain ⟨m7, h⟩ := h
  refine l_X5_heldBy_4  a1 (fun v8 v9 τ10 h => ?_) m7 (0 : Int32) (0 : Int32) _ h
  refine v_iload_n dX5_heldBy_31 rfl rfl ?_
  exact u_iret dX5_heldBy_32 ⟨rfl, id⟩ h
def T_X10_lend (a1 : Int32) (a2 : Int32) (τ : kT) (post : Int32 → kT → Prop) : Prop := (T_X5_has a1 τ (fun r1 τ2 => ((r1 = 0 → post (-2 : Int32) τ2) ∧ (¬ r1 = 0 → ((a2 < 0 → post (-2 : Int32) τ2) ∧ (¬ a2 < 0 → ((a2 < (q_i τ2 1 5) → (∃ j6 : Nat, a1 = nI j6 ∧ j6 < 100 ∧ (((q_i τ2 12 j6) = (-1 : Int32) → (T_X10_remember  τ2 (fun τ9 => (∃ j10 : Nat, a1 = nI j10 ∧ j10 < 100 ∧ (∀ τ11 : kT, τ11 = q_si τ9 12 j10 a2 → (T_X5_heldBy a2 τ11 (fun r12 τ13 => post r12 τ13))))))) ∧ (¬ (q_i τ2 12 j6) = (-1 : Int32) → post (-3 : Int32) τ2)))) ∧ (¬ a2 < (q_i τ2 1 5) → post (-2 : Int32) τ2))))))))
set_option maxRecDepth 100000 in
set_option maxHeartbeats 4000000 in
theorem v_X10_lend {d : Nat}  (a1 : Int32) (a2 : Int32) (τ : kT) (post : Int32 → kT → Prop) (h : T_X10_lend  a1 a2 τ post) : U yX10_lend cX10_lend 3 (some .int) (d + 4) kE0 0 [some (.ref 0), some (.int a1), some (.int a2)] [] τ (k_pi post) := by
  unfold T_X10_lend at h
  refine v_aload_n dX10_lend_0 rfl rfl ?_
  refine u_getr fX10_10 dX10_lend_1 sh_0 rfl (by decide) (rf_0_0 _) ?_
  refine u_getr fX10_191 dX10_lend_4 sh_1 rfl (by decide) (rf_1_1 _) ?_
  refine v_iload_n dX10_lend_7 rfl rfl ?_
  refine u_callV [.int a1] mX5_has iX5_has lX10_202 dX10_lend_8 sh_9 rfl rfl (by decide) ⟨rfl, rfl, id⟩ rfl rfl (Nat.le_of_ble_eq_true rfl) (Nat.le_of_ble_eq_true rfl) (v_X5_has a1 _ _ h) ?_
  rintro _ τ2 ⟨r1, rfl, h⟩
  refine v_if_eq (tgt := 29) dX10_lend_11 (by decide) (fun c3 => ?_) (fun c3 => ?_)
  · have h := h.1 c3
    refine v_bipush (v := -2) dX10_lend_29 (by decide) ?_
    exact u_iret dX10_lend_31 ⟨rfl, id⟩ h
  · have h := h.2 c3
    refine v_iload_n dX10_lend_14 rfl rfl ?_
    refine v_if_lt (tgt := 29) dX10_lend_15 (by decide) (fun c4 => ?_) (fun c4 => ?_)
    · have h := h.1 c4
      refine v_bipush (v := -2) dX10_lend_29 (by decide) ?_
      exact u_iret dX10_lend_31 ⟨rfl, id⟩ h
    · have h := h.2 c4
      refine v_iload_n dX10_lend_18 rfl rfl ?_
      refine v_aload_n dX10_lend_19 rfl rfl ?_
      refine u_getr fX10_10 dX10_lend_20 sh_0 rfl (by decide) (rf_0_0 _) ?_
      refine u_geti fX10_268 dX10_lend_23 sh_1 rfl (by decide) ?_
      refine v_icmp_lt (tgt := 32) dX10_lend_26 (by decide) (fun c5 => ?_) (fun c5 => ?_)
      · have h := h.1 c5
        refine v_aload_n dX10_lend_32 rfl rfl ?_
        refine u_getr fX10_10 dX10_lend_33 sh_0 rfl (by decide) (rf_0_0 _) ?_
        refine u_getr fX10_191 dX10_lend_36 sh_1 rfl (by decide) (rf_1_1 _) ?_
        refine u_getr fX10_271 dX10_lend_39 sh_9 rfl (by decide) (rf_9_2 _) ?_
        refine v_iload_n dX10_lend_42 rfl rfl ?_
        obtain ⟨j6, e_j6, l_j6, h⟩ := h
        refine u_iald dX10_lend_43 sh_12 (by decide) (by decide) e_j6 l_j6 ?_
        refine v_iconst (v := -1) dX10_lend_44 (by decide) ?_
        refine v_icmp_eq (tgt := 51) dX10_lend_45 (by decide) (fun c7 => ?_) (fun c7 => ?_)
        · have h := h.1 c7
          refine v_aload_n dX10_lend_51 rfl rfl ?_
          refine u_callV [] mX10_remember iX10_remember lX10_81 dX10_lend_52 sh_0 rfl rfl (by decide) ⟨rfl, rfl, id⟩ rfl rfl (Nat.le_of_ble_eq_true rfl) (Nat.le_of_ble_eq_true rfl) (v_X10_remember  _ _ h) ?_
          rintro _ τ9 ⟨rfl, h⟩
          refine v_aload_n dX10_lend_55 rfl rfl ?_
          refine u_getr fX10_10 dX10_lend_56 sh_0 rfl (by decide) (rf_0_0 _) ?_
          refine u_getr fX10_191 dX10_lend_59 sh_1 rfl (by decide) (rf_1_1 _) ?_
          refine u_getr fX10_271 dX10_lend_62 sh_9 rfl (by decide) (rf_9_2 _) ?_
          refine v_iload_n dX10_lend_65 rfl rfl ?_
          refine v_iload_n dX10_lend_66 rfl rfl ?_
          obtain ⟨j10, e_j10, l_j10, h⟩ := h
          refine u_iast dX10_lend_67 sh_12 (by decide) (by decide) e_j10 l_j10 (fun τ11 e_τ11 => ?_)
          have h := h τ11 e_τ11
          refine v_aload_n dX10_lend_68 rfl rfl ?_
          refine u_getr fX10_10 dX10_lend_69 sh_0 rfl (by decide) (rf_0_0 _) ?_
          refine u_getr fX10_191 dX10_lend_72 sh_1 rfl (by decide) (rf_1_1 _) ?_
          refine v_iload_n dX10_lend_75 rfl rfl ?_
          refine u_callV [.int a2] mX5_heldBy iX5_heldBy lX10_274 dX10_lend_76 sh_9 rfl rfl (by decide) ⟨rfl, rfl, id⟩ rfl rfl (Nat.le_of_ble_eq_true rfl) (Nat.le_of_ble_eq_true rfl) (v_X5_heldBy a2 _ _ h) ?_
          rintro _ τ13 ⟨r12, rfl, h⟩
          exact u_iret dX10_lend_79 ⟨rfl, id⟩ h
        · have h := h.2 c7
          refine v_bipush (v := -3) dX10_lend_48 (by decide) ?_
          exact u_iret dX10_lend_50 ⟨rfl, id⟩ h
      · have h := h.2 c5
        refine v_bipush (v := -2) dX10_lend_29 (by decide) ?_
        exact u_iret dX10_lend_31 ⟨rfl, id⟩ h
def T_X10_bringBack (a1 : Int32) (τ : kT) (post : Int32 → kT → Prop) : Prop := (T_X5_has a1 τ (fun r1 τ2 => ((¬ r1 = 0 → (∃ j4 : Nat, a1 = nI j4 ∧ j4 < 100 ∧ (∀ v5 : Int32, v5 = (q_i τ2 12 j4) → ((0 ≤ v5 → (T_X10_remember  τ2 (fun τ8 => (∃ j9 : Nat, a1 = nI j9 ∧ j9 < 100 ∧ (∀ τ10 : kT, τ10 = q_si τ8 12 j9 (-1 : Int32) → post v5 τ10))))) ∧ (¬ 0 ≤ v5 → post (-3 : Int32) τ2))))) ∧ (r1 = 0 → post (-2 : Int32) τ2))))
set_option maxRecDepth 100000 in
set_option maxHeartbeats 4000000 in
theorem v_X10_bringBack {d : Nat}  (a1 : Int32) (τ : kT) (post : Int32 → kT → Prop) (h : T_X10_bringBack  a1 τ post) : U yX10_bringBack cX10_bringBack 3 (some .int) (d + 4) kE0 0 [some (.ref 0), some (.int a1), none] [] τ (k_pi post) := by
  unfold T_X10_bringBack at h
  refine v_aload_n dX10_bringBack_0 rfl rfl ?_
  refine u_getr fX10_10 dX10_bringBack_1 sh_0 rfl (by decide) (rf_0_0 _) ?_
  refine u_getr fX10_191 dX10_bringBack_4 sh_1 rfl (by decide) (rf_1_1 _) ?_
  refine v_iload_n dX10_bringBack_7 rfl rfl ?_
  refine u_callV [.int a1] mX5_has iX5_has lX10_202 dX10_bringBack_8 sh_9 rfl rfl (by decide) ⟨rfl, rfl, id⟩ rfl rfl (Nat.le_of_ble_eq_true rfl) (Nat.le_of_ble_eq_true rfl) (v_X5_has a1 _ _ h) ?_
  rintro _ τ2 ⟨r1, rfl, h⟩
  refine v_if_ne (tgt := 17) dX10_bringBack_11 (by decide) (fun c3 => ?_) (fun c3 => ?_)
  · have h := h.1 c3
    refine v_aload_n dX10_bringBack_17 rfl rfl ?_
    refine u_getr fX10_10 dX10_bringBack_18 sh_0 rfl (by decide) (rf_0_0 _) ?_
    refine u_getr fX10_191 dX10_bringBack_21 sh_1 rfl (by decide) (rf_1_1 _) ?_
    refine u_getr fX10_271 dX10_bringBack_24 sh_9 rfl (by decide) (rf_9_2 _) ?_
    refine v_iload_n dX10_bringBack_27 rfl rfl ?_
    obtain ⟨j4, e_j4, l_j4, h⟩ := h
    refine u_iald dX10_bringBack_28 sh_12 (by decide) (by decide) e_j4 l_j4 ?_
    refine v_topi (fun v5 e_v5 => ?_)
    have h := h v5 e_v5
    refine v_istore_n dX10_bringBack_29 rfl (by decide) rfl ?_
    refine v_ls (ls2 := [some (.ref 0), some (.int a1), some (.int v5)]) rfl ?_
    refine v_iload_n dX10_bringBack_30 rfl rfl ?_
    refine v_if_ge (tgt := 37) dX10_bringBack_31 (by decide) (fun c6 => ?_) (fun c6 => ?_)
    · have h := h.1 c6
      refine v_aload_n dX10_bringBack_37 rfl rfl ?_
      refine u_callV [] mX10_remember iX10_remember lX10_81 dX10_bringBack_38 sh_0 rfl rfl (by decide) ⟨rfl, rfl, id⟩ rfl rfl (Nat.le_of_ble_eq_true rfl) (Nat.le_of_ble_eq_true rfl) (v_X10_remember  _ _ h) ?_
      rintro _ τ8 ⟨rfl, h⟩
      refine v_aload_n dX10_bringBack_41 rfl rfl ?_
      refine u_getr fX10_10 dX10_bringBack_42 sh_0 rfl (by decide) (rf_0_0 _) ?_
      refine u_getr fX10_191 dX10_bringBack_45 sh_1 rfl (by decide) (rf_1_1 _) ?_
      refine u_getr fX10_271 dX10_bringBack_48 sh_9 rfl (by decide) (rf_9_2 _) ?_
      refine v_iload_n dX10_bringBack_51 rfl rfl ?_
      refine v_iconst (v := -1) dX10_bringBack_52 (by decide) ?_
      obtain ⟨j9, e_j9, l_j9, h⟩ := h
      refine u_iast dX10_bringBack_53 sh_12 (by decide) (by decide) e_j9 l_j9 (fun τ10 e_τ10 => ?_)
      have h := h τ10 e_τ10
      refine v_iload_n dX10_bringBack_54 rfl rfl ?_
      exact u_iret dX10_bringBack_55 ⟨rfl, id⟩ h
    · have h := h.2 c6
      refine v_bipush (v := -3) dX10_bringBack_34 (by decide) ?_
      exact u_iret dX10_bringBack_36 ⟨rfl, id⟩ h
  · have h := h.2 c3
    refine v_bipush (v := -2) dX10_bringBack_14 (by decide) ?_
    exact u_iret dX10_bringBack_16 ⟨rfl, id⟩ h
def T_X10_lose (a1 : Int32) (τ : kT) (post : Int32 → kT → Prop) : Prop := (T_X5_has a1 τ (fun r1 τ2 => ((¬ r1 = 0 → (∃ j4 : Nat, a1 = nI j4 ∧ j4 < 100 ∧ (∀ v5 : Int32, v5 = (q_i τ2 12 j4) → ((¬ v5 = (-6 : Int32) → (T_X10_remember  τ2 (fun τ8 => (∃ j9 : Nat, a1 = nI j9 ∧ j9 < 100 ∧ (∀ τ10 : kT, τ10 = q_si τ8 12 j9 (-6 : Int32) → post v5 τ10))))) ∧ (v5 = (-6 : Int32) → post (-3 : Int32) τ2))))) ∧ (r1 = 0 → post (-2 : Int32) τ2))))
set_option maxRecDepth 100000 in
set_option maxHeartbeats 4000000 in
theorem v_X10_lose {d : Nat}  (a1 : Int32) (τ : kT) (post : Int32 → kT → Prop) (h : T_X10_lose  a1 τ post) : U yX10_lose cX10_lose 3 (some .int) (d + 4) kE0 0 [some (.ref 0), some (.int a1), none] [] τ (k_pi post) := by
  unfold T_X10_lose at h
  refine v_aload_n dX10_lose_0 rfl rfl ?_
  refine u_getr fX10_10 dX10_lose_1 sh_0 rfl (by decide) (rf_0_0 _) ?_
  refine u_getr fX10_191 dX10_lose_4 sh_1 rfl (by decide) (rf_1_1 _) ?_
  refine v_iload_n dX10_lose_7 rfl rfl ?_
  refine u_callV [.int a1] mX5_has iX5_has lX10_202 dX10_lose_8 sh_9 rfl rfl (by decide) ⟨rfl, rfl, id⟩ rfl rfl (Nat.le_of_ble_eq_true rfl) (Nat.le_of_ble_eq_true rfl) (v_X5_has a1 _ _ h) ?_
  rintro _ τ2 ⟨r1, rfl, h⟩
  refine v_if_ne (tgt := 17) dX10_lose_11 (by decide) (fun c3 => ?_) (fun c3 => ?_)
  · have h := h.1 c3
    refine v_aload_n dX10_lose_17 rfl rfl ?_
    refine u_getr fX10_10 dX10_lose_18 sh_0 rfl (by decide) (rf_0_0 _) ?_
    refine u_getr fX10_191 dX10_lose_21 sh_1 rfl (by decide) (rf_1_1 _) ?_
    refine u_getr fX10_271 dX10_lose_24 sh_9 rfl (by decide) (rf_9_2 _) ?_
    refine v_iload_n dX10_lose_27 rfl rfl ?_
    obtain ⟨j4, e_j4, l_j4, h⟩ := h
    refine u_iald dX10_lose_28 sh_12 (by decide) (by decide) e_j4 l_j4 ?_
    refine v_topi (fun v5 e_v5 => ?_)
    have h := h v5 e_v5
    refine v_istore_n dX10_lose_29 rfl (by decide) rfl ?_
    refine v_ls (ls2 := [some (.ref 0), some (.int a1), some (.int v5)]) rfl ?_
    refine v_iload_n dX10_lose_30 rfl rfl ?_
    refine v_bipush (v := -6) dX10_lose_31 (by decide) ?_
    refine v_icmp_ne (tgt := 39) dX10_lose_33 (by decide) (fun c6 => ?_) (fun c6 => ?_)
    · have h := h.1 c6
      refine v_aload_n dX10_lose_39 rfl rfl ?_
      refine u_callV [] mX10_remember iX10_remember lX10_81 dX10_lose_40 sh_0 rfl rfl (by decide) ⟨rfl, rfl, id⟩ rfl rfl (Nat.le_of_ble_eq_true rfl) (Nat.le_of_ble_eq_true rfl) (v_X10_remember  _ _ h) ?_
      rintro _ τ8 ⟨rfl, h⟩
      refine v_aload_n dX10_lose_43 rfl rfl ?_
      refine u_getr fX10_10 dX10_lose_44 sh_0 rfl (by decide) (rf_0_0 _) ?_
      refine u_getr fX10_191 dX10_lose_47 sh_1 rfl (by decide) (rf_1_1 _) ?_
      refine u_getr fX10_271 dX10_lose_50 sh_9 rfl (by decide) (rf_9_2 _) ?_
      refine v_iload_n dX10_lose_53 rfl rfl ?_
      refine v_bipush (v := -6) dX10_lose_54 (by decide) ?_
      obtain ⟨j9, e_j9, l_j9, h⟩ := h
      refine u_iast dX10_lose_56 sh_12 (by decide) (by decide) e_j9 l_j9 (fun τ10 e_τ10 => ?_)
      have h := h τ10 e_τ10
      refine v_iload_n dX10_lose_57 rfl rfl ?_
      exact u_iret dX10_lose_58 ⟨rfl, id⟩ h
    · have h := h.2 c6
      refine v_bipush (v := -3) dX10_lose_36 (by decide) ?_
      exact u_iret dX10_lose_38 ⟨rfl, id⟩ h
  · have h := h.2 c3
    refine v_bipush (v := -2) dX10_lose_14 (by decide) ?_
    exact u_iret dX10_lose_16 ⟨rfl, id⟩ h
def T_X10_found (a1 : Int32) (τ : kT) (post : Int32 → kT → Prop) : Prop := (T_X5_has a1 τ (fun r1 τ2 => ((¬ r1 = 0 → (∃ j4 : Nat, a1 = nI j4 ∧ j4 < 100 ∧ (((q_i τ2 12 j4) = (-6 : Int32) → (T_X10_remember  τ2 (fun τ7 => (∃ j8 : Nat, a1 = nI j8 ∧ j8 < 100 ∧ (∀ τ9 : kT, τ9 = q_si τ7 12 j8 (-1 : Int32) → post (1 : Int32) τ9))))) ∧ (¬ (q_i τ2 12 j4) = (-6 : Int32) → post (-3 : Int32) τ2)))) ∧ (r1 = 0 → post (-2 : Int32) τ2))))
set_option maxRecDepth 100000 in
set_option maxHeartbeats 4000000 in
theorem v_X10_found {d : Nat}  (a1 : Int32) (τ : kT) (post : Int32 → kT → Prop) (h : T_X10_found  a1 τ post) : U yX10_found cX10_found 2 (some .int) (d + 4) kE0 0 [some (.ref 0), some (.int a1)] [] τ (k_pi post) := by
  unfold T_X10_found at h
  refine v_aload_n dX10_found_0 rfl rfl ?_
  refine u_getr fX10_10 dX10_found_1 sh_0 rfl (by decide) (rf_0_0 _) ?_
  refine u_getr fX10_191 dX10_found_4 sh_1 rfl (by decide) (rf_1_1 _) ?_
  refine v_iload_n dX10_found_7 rfl rfl ?_
  refine u_callV [.int a1] mX5_has iX5_has lX10_202 dX10_found_8 sh_9 rfl rfl (by decide) ⟨rfl, rfl, id⟩ rfl rfl (Nat.le_of_ble_eq_true rfl) (Nat.le_of_ble_eq_true rfl) (v_X5_has a1 _ _ h) ?_
  rintro _ τ2 ⟨r1, rfl, h⟩
  refine v_if_ne (tgt := 17) dX10_found_11 (by decide) (fun c3 => ?_) (fun c3 => ?_)
  · have h := h.1 c3
    refine v_aload_n dX10_found_17 rfl rfl ?_
    refine u_getr fX10_10 dX10_found_18 sh_0 rfl (by decide) (rf_0_0 _) ?_
    refine u_getr fX10_191 dX10_found_21 sh_1 rfl (by decide) (rf_1_1 _) ?_
    refine u_getr fX10_271 dX10_found_24 sh_9 rfl (by decide) (rf_9_2 _) ?_
    refine v_iload_n dX10_found_27 rfl rfl ?_
    obtain ⟨j4, e_j4, l_j4, h⟩ := h
    refine u_iald dX10_found_28 sh_12 (by decide) (by decide) e_j4 l_j4 ?_
    refine v_bipush (v := -6) dX10_found_29 (by decide) ?_
    refine v_icmp_eq (tgt := 37) dX10_found_31 (by decide) (fun c5 => ?_) (fun c5 => ?_)
    · have h := h.1 c5
      refine v_aload_n dX10_found_37 rfl rfl ?_
      refine u_callV [] mX10_remember iX10_remember lX10_81 dX10_found_38 sh_0 rfl rfl (by decide) ⟨rfl, rfl, id⟩ rfl rfl (Nat.le_of_ble_eq_true rfl) (Nat.le_of_ble_eq_true rfl) (v_X10_remember  _ _ h) ?_
      rintro _ τ7 ⟨rfl, h⟩
      refine v_aload_n dX10_found_41 rfl rfl ?_
      refine u_getr fX10_10 dX10_found_42 sh_0 rfl (by decide) (rf_0_0 _) ?_
      refine u_getr fX10_191 dX10_found_45 sh_1 rfl (by decide) (rf_1_1 _) ?_
      refine u_getr fX10_271 dX10_found_48 sh_9 rfl (by decide) (rf_9_2 _) ?_
      refine v_iload_n dX10_found_51 rfl rfl ?_
      refine v_iconst (v := -1) dX10_found_52 (by decide) ?_
      obtain ⟨j8, e_j8, l_j8, h⟩ := h
      refine u_iast dX10_found_53 sh_12 (by decide) (by decide) e_j8 l_j8 (fun τ9 e_τ9 => ?_)
      have h := h τ9 e_τ9
      refine v_iconst (v := 1) dX10_found_54 (by decide) ?_
      exact u_iret dX10_found_55 ⟨rfl, id⟩ h
    · have h := h.2 c5
      refine v_bipush (v := -3) dX10_found_34 (by decide) ?_
      exact u_iret dX10_found_36 ⟨rfl, id⟩ h
  · have h := h.2 c3
    refine v_bipush (v := -2) dX10_found_14 (by decide) ?_
    exact u_iret dX10_found_16 ⟨rfl, id⟩ h
def T_X10_holder (a1 : Int32) (τ : kT) (post : Int32 → kT → Prop) : Prop := (T_X5_has a1 τ (fun r1 τ2 => ((r1 = 0 → post (-2 : Int32) τ2) ∧ (¬ r1 = 0 → (∃ j4 : Nat, a1 = nI j4 ∧ j4 < 100 ∧ post (q_i τ2 12 j4) τ2)))))
set_option maxRecDepth 100000 in
set_option maxHeartbeats 4000000 in
theorem v_X10_holder {d : Nat}  (a1 : Int32) (τ : kT) (post : Int32 → kT → Prop) (h : T_X10_holder  a1 τ post) : U yX10_holder cX10_holder 2 (some .int) (d + 1) kE0 0 [some (.ref 0), some (.int a1)] [] τ (k_pi post) := by
  unfold T_X10_holder at h
  refine v_aload_n dX10_holder_0 rfl rfl ?_
  refine u_getr fX10_10 dX10_holder_1 sh_0 rfl (by decide) (rf_0_0 _) ?_
  refine u_getr fX10_191 dX10_holder_4 sh_1 rfl (by decide) (rf_1_1 _) ?_
  refine v_iload_n dX10_holder_7 rfl rfl ?_
  refine u_callV [.int a1] mX5_has iX5_has lX10_202 dX10_holder_8 sh_9 rfl rfl (by decide) ⟨rfl, rfl, id⟩ rfl rfl (Nat.le_of_ble_eq_true rfl) (Nat.le_of_ble_eq_true rfl) (v_X5_has a1 _ _ h) ?_
  rintro _ τ2 ⟨r1, rfl, h⟩
  refine v_if_eq (tgt := 29) dX10_holder_11 (by decide) (fun c3 => ?_) (fun c3 => ?_)
  · have h := h.1 c3
    refine v_bipush (v := -2) dX10_holder_29 (by decide) ?_
    exact u_iret dX10_holder_31 ⟨rfl, id⟩ h
  · have h := h.2 c3
    refine v_aload_n dX10_holder_14 rfl rfl ?_
    refine u_getr fX10_10 dX10_holder_15 sh_0 rfl (by decide) (rf_0_0 _) ?_
    refine u_getr fX10_191 dX10_holder_18 sh_1 rfl (by decide) (rf_1_1 _) ?_
    refine u_getr fX10_271 dX10_holder_21 sh_9 rfl (by decide) (rf_9_2 _) ?_
    refine v_iload_n dX10_holder_24 rfl rfl ?_
    obtain ⟨j4, e_j4, l_j4, h⟩ := h
    refine u_iald dX10_holder_25 sh_12 (by decide) (by decide) e_j4 l_j4 ?_
    refine v_goto (tgt := 31) dX10_holder_26 (by decide) ?_
    exact u_iret dX10_holder_31 ⟨rfl, id⟩ h
def T_X5_wishFor (a1 : Int32) (a2 : Int32) (τ : kT) (post : Int32 → kT → Prop) : Prop := (∀ v1 : Int64, v1 = ((1 : Int64) <<< (a2.toInt64 &&& 63)) → (∃ j2 : Nat, a1 = nI j2 ∧ j2 < 100 ∧ (((lg_cmp ((q_l τ 13 j2) &&& v1) (0 : Int64)) = 0 → (∃ j4 : Nat, a1 = nI j4 ∧ j4 < 100 ∧ (((lg_cmp ((q_l τ 14 j4) &&& v1) (0 : Int64)) = 0 → post (0 : Int32) τ) ∧ (¬ (lg_cmp ((q_l τ 14 j4) &&& v1) (0 : Int64)) = 0 → post (2 : Int32) τ)))) ∧ (¬ (lg_cmp ((q_l τ 13 j2) &&& v1) (0 : Int64)) = 0 → post (1 : Int32) τ))))
set_option maxRecDepth 100000 in
set_option maxHeartbeats 4000000 in
theorem v_X5_wishFor {d : Nat}  (a1 : Int32) (a2 : Int32) (τ : kT) (post : Int32 → kT → Prop) (h : T_X5_wishFor  a1 a2 τ post) : U yX5_wishFor cX5_wishFor 5 (some .int) (d + 0) kE0 0 [some (.ref 9), some (.int a1), some (.int a2), none, none] [] τ (k_pi post) := by
  unfold T_X5_wishFor at h
  refine v_lconst (v := 1) dX5_wishFor_0 (by decide) ?_
  refine v_iload_n dX5_wishFor_1 rfl rfl ?_
  refine v_lshl dX5_wishFor_2 rfl ?_
  refine v_topl (fun v1 e_v1 => ?_)
  have h := h v1 e_v1
  refine v_lstore_n dX5_wishFor_3 rfl (by decide) rfl ?_
  refine v_ls (ls2 := [some (.ref 9), some (.int a1), some (.int a2), some (.long v1), none]) rfl ?_
  refine v_aload_n dX5_wishFor_4 rfl rfl ?_
  refine u_getr fX5_21 dX5_wishFor_5 sh_9 rfl (by decide) (rf_9_3 _) ?_
  refine v_iload_n dX5_wishFor_8 rfl rfl ?_
  obtain ⟨j2, e_j2, l_j2, h⟩ := h
  refine u_lald dX5_wishFor_9 sh_13 (by decide) (by decide) e_j2 l_j2 ?_
  refine v_lload_n dX5_wishFor_10 rfl rfl ?_
  refine v_land dX5_wishFor_11 ?_
  refine v_lconst (v := 0) dX5_wishFor_12 (by decide) ?_
  refine v_lcmp dX5_wishFor_13 ?_
  refine v_if_eq (tgt := 19) dX5_wishFor_14 (by decide) (fun c3 => ?_) (fun c3 => ?_)
  · have h := h.1 c3
    refine v_aload_n dX5_wishFor_19 rfl rfl ?_
    refine u_getr fX5_25 dX5_wishFor_20 sh_9 rfl (by decide) (rf_9_4 _) ?_
    refine v_iload_n dX5_wishFor_23 rfl rfl ?_
    obtain ⟨j4, e_j4, l_j4, h⟩ := h
    refine u_lald dX5_wishFor_24 sh_14 (by decide) (by decide) e_j4 l_j4 ?_
    refine v_lload_n dX5_wishFor_25 rfl rfl ?_
    refine v_land dX5_wishFor_26 ?_
    refine v_lconst (v := 0) dX5_wishFor_27 (by decide) ?_
    refine v_lcmp dX5_wishFor_28 ?_
    refine v_if_eq (tgt := 36) dX5_wishFor_29 (by decide) (fun c5 => ?_) (fun c5 => ?_)
    · have h := h.1 c5
      refine v_iconst (v := 0) dX5_wishFor_36 (by decide) ?_
      exact u_iret dX5_wishFor_37 ⟨rfl, id⟩ h
    · have h := h.2 c5
      refine v_iconst (v := 2) dX5_wishFor_32 (by decide) ?_
      refine v_goto (tgt := 37) dX5_wishFor_33 (by decide) ?_
      exact u_iret dX5_wishFor_37 ⟨rfl, id⟩ h
  · have h := h.2 c3
    refine v_iconst (v := 1) dX5_wishFor_17 (by decide) ?_
    exact u_iret dX5_wishFor_18 ⟨rfl, id⟩ h
def T_X5_exchangeWish (a1 : Int32) (a2 : Int32) (a3 : Int32) (τ : kT) (post : Int32 → kT → Prop) : Prop := (T_X5_wishFor a1 a2 τ (fun r1 τ2 => (∀ v3 : Int64, v3 = ((1 : Int64) <<< (a2.toInt64 &&& 63)) → ((¬ a3 = (1 : Int32) → (∃ j5 : Nat, a1 = nI j5 ∧ j5 < 100 ∧ (∃ j6 : Nat, a1 = nI j6 ∧ j6 < 100 ∧ (∀ τ7 : kT, τ7 = q_sl τ2 13 j6 ((q_l τ2 13 j5) &&& (v3 ^^^ (-1 : Int64))) → ((¬ a3 = (2 : Int32) → (∃ j9 : Nat, a1 = nI j9 ∧ j9 < 100 ∧ (∃ j10 : Nat, a1 = nI j10 ∧ j10 < 100 ∧ (∀ τ11 : kT, τ11 = q_sl τ7 14 j10 ((q_l τ7 14 j9) &&& (v3 ^^^ (-1 : Int64))) → post r1 τ11)))) ∧ (a3 = (2 : Int32) → (∃ j12 : Nat, a1 = nI j12 ∧ j12 < 100 ∧ (∃ j13 : Nat, a1 = nI j13 ∧ j13 < 100 ∧ (∀ τ14 : kT, τ14 = q_sl τ7 14 j13 ((q_l τ7 14 j12) ||| v3) → post r1 τ14))))))))) ∧ (a3 = (1 : Int32) → (∃ j15 : Nat, a1 = nI j15 ∧ j15 < 100 ∧ (∃ j16 : Nat, a1 = nI j16 ∧ j16 < 100 ∧ (∀ τ17 : kT, τ17 = q_sl τ2 13 j16 ((q_l τ2 13 j15) ||| v3) → ((¬ a3 = (2 : Int32) → (∃ j19 : Nat, a1 = nI j19 ∧ j19 < 100 ∧ (∃ j20 : Nat, a1 = nI j20 ∧ j20 < 100 ∧ (∀ τ21 : kT, τ21 = q_sl τ17 14 j20 ((q_l τ17 14 j19) &&& (v3 ^^^ (-1 : Int64))) → post r1 τ21)))) ∧ (a3 = (2 : Int32) → (∃ j22 : Nat, a1 = nI j22 ∧ j22 < 100 ∧ (∃ j23 : Nat, a1 = nI j23 ∧ j23 < 100 ∧ (∀ τ24 : kT, τ24 = q_sl τ17 14 j23 ((q_l τ17 14 j22) ||| v3) → post r1 τ24)))))))))))))
set_option maxRecDepth 100000 in
set_option maxHeartbeats 4000000 in
theorem v_X5_exchangeWish {d : Nat}  (a1 : Int32) (a2 : Int32) (a3 : Int32) (τ : kT) (post : Int32 → kT → Prop) (h : T_X5_exchangeWish  a1 a2 a3 τ post) : U yX5_exchangeWish cX5_exchangeWish 7 (some .int) (d + 1) kE0 0 [some (.ref 9), some (.int a1), some (.int a2), some (.int a3), none, none, none] [] τ (k_pi post) := by
  unfold T_X5_exchangeWish at h
  refine v_aload_n dX5_exchangeWish_0 rfl rfl ?_
  refine v_iload_n dX5_exchangeWish_1 rfl rfl ?_
  refine v_iload_n dX5_exchangeWish_2 rfl rfl ?_
  refine u_callV [.int a1, .int a2] mX5_wishFor iX5_wishFor lX5_54 dX5_exchangeWish_3 sh_9 rfl rfl (by decide) ⟨rfl, rfl, id⟩ rfl rfl (Nat.le_of_ble_eq_true rfl) (Nat.le_of_ble_eq_true rfl) (v_X5_wishFor a1 a2 _ _ h) ?_
  rintro _ τ2 ⟨r1, rfl, h⟩
  refine v_istore dX5_exchangeWish_6 (by decide) rfl ?_
  refine v_ls (ls2 := [some (.ref 9), some (.int a1), some (.int a2), some (.int a3), some (.int r1), none, none]) rfl ?_
  refine v_lconst (v := 1) dX5_exchangeWish_8 (by decide) ?_
  refine v_iload_n dX5_exchangeWish_9 rfl rfl ?_
  refine v_lshl dX5_exchangeWish_10 rfl ?_
  refine v_topl (fun v3 e_v3 => ?_)
  have h := h v3 e_v3
  refine v_lstore dX5_exchangeWish_11 (by decide) rfl ?_
  refine v_ls (ls2 := [some (.ref 9), some (.int a1), some (.int a2), some (.int a3), some (.int r1), some (.long v3), none]) rfl ?_
  refine v_aload_n dX5_exchangeWish_13 rfl rfl ?_
  refine u_getr fX5_21 dX5_exchangeWish_14 sh_9 rfl (by decide) (rf_9_3 _) ?_
  refine v_iload_n dX5_exchangeWish_17 rfl rfl ?_
  refine v_iload_n dX5_exchangeWish_18 rfl rfl ?_
  refine v_iconst (v := 1) dX5_exchangeWish_19 (by decide) ?_
  refine v_icmp_ne (tgt := 35) dX5_exchangeWish_20 (by decide) (fun c4 => ?_) (fun c4 => ?_)
  · have h := h.1 c4
    refine v_aload_n dX5_exchangeWish_35 rfl rfl ?_
    refine u_getr fX5_21 dX5_exchangeWish_36 sh_9 rfl (by decide) (rf_9_3 _) ?_
    refine v_iload_n dX5_exchangeWish_39 rfl rfl ?_
    obtain ⟨j5, e_j5, l_j5, h⟩ := h
    refine u_lald dX5_exchangeWish_40 sh_13 (by decide) (by decide) e_j5 l_j5 ?_
    refine v_lload dX5_exchangeWish_41 rfl ?_
    refine v_ldc2 kX5_57 dX5_exchangeWish_43 ?_
    refine v_lxor dX5_exchangeWish_46 ?_
    refine v_land dX5_exchangeWish_47 ?_
    obtain ⟨j6, e_j6, l_j6, h⟩ := h
    refine u_last id dX5_exchangeWish_48 sh_13 (by decide) (by decide) e_j6 l_j6 (fun τ7 e_τ7 => ?_)
    have h := h τ7 e_τ7
    refine v_aload_n dX5_exchangeWish_49 rfl rfl ?_
    refine u_getr fX5_25 dX5_exchangeWish_50 sh_9 rfl (by decide) (rf_9_4 _) ?_
    refine v_iload_n dX5_exchangeWish_53 rfl rfl ?_
    refine v_iload_n dX5_exchangeWish_54 rfl rfl ?_
    refine v_iconst (v := 2) dX5_exchangeWish_55 (by decide) ?_
    refine v_icmp_ne (tgt := 71) dX5_exchangeWish_56 (by decide) (fun c8 => ?_) (fun c8 => ?_)
    · have h := h.1 c8
      refine v_aload_n dX5_exchangeWish_71 rfl rfl ?_
      refine u_getr fX5_25 dX5_exchangeWish_72 sh_9 rfl (by decide) (rf_9_4 _) ?_
      refine v_iload_n dX5_exchangeWish_75 rfl rfl ?_
      obtain ⟨j9, e_j9, l_j9, h⟩ := h
      refine u_lald dX5_exchangeWish_76 sh_14 (by decide) (by decide) e_j9 l_j9 ?_
      refine v_lload dX5_exchangeWish_77 rfl ?_
      refine v_ldc2 kX5_57 dX5_exchangeWish_79 ?_
      refine v_lxor dX5_exchangeWish_82 ?_
      refine v_land dX5_exchangeWish_83 ?_
      obtain ⟨j10, e_j10, l_j10, h⟩ := h
      refine u_last id dX5_exchangeWish_84 sh_14 (by decide) (by decide) e_j10 l_j10 (fun τ11 e_τ11 => ?_)
      have h := h τ11 e_τ11
      refine v_iload dX5_exchangeWish_85 rfl ?_
      exact u_iret dX5_exchangeWish_87 ⟨rfl, id⟩ h
    · have h := h.2 c8
      refine v_aload_n dX5_exchangeWish_59 rfl rfl ?_
      refine u_getr fX5_25 dX5_exchangeWish_60 sh_9 rfl (by decide) (rf_9_4 _) ?_
      refine v_iload_n dX5_exchangeWish_63 rfl rfl ?_
      obtain ⟨j12, e_j12, l_j12, h⟩ := h
      refine u_lald dX5_exchangeWish_64 sh_14 (by decide) (by decide) e_j12 l_j12 ?_
      refine v_lload dX5_exchangeWish_65 rfl ?_
      refine v_lor dX5_exchangeWish_67 ?_
      refine v_goto (tgt := 84) dX5_exchangeWish_68 (by decide) ?_
      obtain ⟨j13, e_j13, l_j13, h⟩ := h
      refine u_last id dX5_exchangeWish_84 sh_14 (by decide) (by decide) e_j13 l_j13 (fun τ14 e_τ14 => ?_)
      have h := h τ14 e_τ14
      refine v_iload dX5_exchangeWish_85 rfl ?_
      exact u_iret dX5_exchangeWish_87 ⟨rfl, id⟩ h
  · have h := h.2 c4
    refine v_aload_n dX5_exchangeWish_23 rfl rfl ?_
    refine u_getr fX5_21 dX5_exchangeWish_24 sh_9 rfl (by decide) (rf_9_3 _) ?_
    refine v_iload_n dX5_exchangeWish_27 rfl rfl ?_
    obtain ⟨j15, e_j15, l_j15, h⟩ := h
    refine u_lald dX5_exchangeWish_28 sh_13 (by decide) (by decide) e_j15 l_j15 ?_
    refine v_lload dX5_exchangeWish_29 rfl ?_
    refine v_lor dX5_exchangeWish_31 ?_
    refine v_goto (tgt := 48) dX5_exchangeWish_32 (by decide) ?_
    obtain ⟨j16, e_j16, l_j16, h⟩ := h
    refine u_last id dX5_exchangeWish_48 sh_13 (by decide) (by decide) e_j16 l_j16 (fun τ17 e_τ17 => ?_)
    have h := h τ17 e_τ17
    refine v_aload_n dX5_exchangeWish_49 rfl rfl ?_
    refine u_getr fX5_25 dX5_exchangeWish_50 sh_9 rfl (by decide) (rf_9_4 _) ?_
    refine v_iload_n dX5_exchangeWish_53 rfl rfl ?_
    refine v_iload_n dX5_exchangeWish_54 rfl rfl ?_
    refine v_iconst (v := 2) dX5_exchangeWish_55 (by decide) ?_
    refine v_icmp_ne (tgt := 71) dX5_exchangeWish_56 (by decide) (fun c18 => ?_) (fun c18 => ?_)
    · have h := h.1 c18
      refine v_aload_n dX5_exchangeWish_71 rfl rfl ?_
      refine u_getr fX5_25 dX5_exchangeWish_72 sh_9 rfl (by decide) (rf_9_4 _) ?_
      refine v_iload_n dX5_exchangeWish_75 rfl rfl ?_
      obtain ⟨j19, e_j19, l_j19, h⟩ := h
      refine u_lald dX5_exchangeWish_76 sh_14 (by decide) (by decide) e_j19 l_j19 ?_
      refine v_lload dX5_exchangeWish_77 rfl ?_
      refine v_ldc2 kX5_57 dX5_exchangeWish_79 ?_
      refine v_lxor dX5_exchangeWish_82 ?_
      refine v_land dX5_exchangeWish_83 ?_
      obtain ⟨j20, e_j20, l_j20, h⟩ := h
      refine u_last id dX5_exchangeWish_84 sh_14 (by decide) (by decide) e_j20 l_j20 (fun τ21 e_τ21 => ?_)
      have h := h τ21 e_τ21
      refine v_iload dX5_exchangeWish_85 rfl ?_
      exact u_iret dX5_exchangeWish_87 ⟨rfl, id⟩ h
    · have h := h.2 c18
      refine v_aload_n dX5_exchangeWish_59 rfl rfl ?_
      refine u_getr fX5_25 dX5_exchangeWish_60 sh_9 rfl (by decide) (rf_9_4 _) ?_
      refine v_iload_n dX5_exchangeWish_63 rfl rfl ?_
      obtain ⟨j22, e_j22, l_j22, h⟩ := h
      refine u_lald dX5_exchangeWish_64 sh_14 (by decide) (by decide) e_j22 l_j22 ?_
      refine v_lload dX5_exchangeWish_65 rfl ?_
      refine v_lor dX5_exchangeWish_67 ?_
      refine v_goto (tgt := 84) dX5_exchangeWish_68 (by decide) ?_
      obtain ⟨j23, e_j23, l_j23, h⟩ := h
      refine u_last id dX5_exchangeWish_84 sh_14 (by decide) (by decide) e_j23 l_j23 (fun τ24 e_τ24 => ?_)
      have h := h τ24 e_τ24
      refine v_iload dX5_exchangeWish_85 rfl ?_
      exact u_iret dX5_exchangeWish_87 ⟨rfl, id⟩ h
def T_X10_wish (a1 : Int32) (a2 : Int32) (a3 : Int32) (τ : kT) (post : Int32 → kT → Prop) : Prop := (T_X5_has a1 τ (fun r1 τ2 => ((r1 = 0 → post (-2 : Int32) τ2) ∧ (¬ r1 = 0 → (T_X6_hasDoor a2 τ2 (fun r4 τ5 => ((r4 = 0 → post (-2 : Int32) τ5) ∧ (¬ r4 = 0 → ((a3 < 0 → post (-2 : Int32) τ5) ∧ (¬ a3 < 0 → ((a3 ≤ (2 : Int32) → (T_X10_remember  τ5 (fun τ10 => (T_X5_exchangeWish a1 a2 a3 τ10 (fun r11 τ12 => post r11 τ12))))) ∧ (¬ a3 ≤ (2 : Int32) → post (-2 : Int32) τ5))))))))))))
set_option maxRecDepth 100000 in
set_option maxHeartbeats 4000000 in
theorem v_X10_wish {d : Nat}  (a1 : Int32) (a2 : Int32) (a3 : Int32) (τ : kT) (post : Int32 → kT → Prop) (h : T_X10_wish  a1 a2 a3 τ post) : U yX10_wish cX10_wish 4 (some .int) (d + 4) kE0 0 [some (.ref 0), some (.int a1), some (.int a2), some (.int a3)] [] τ (k_pi post) := by
  unfold T_X10_wish at h
  refine v_aload_n dX10_wish_0 rfl rfl ?_
  refine u_getr fX10_10 dX10_wish_1 sh_0 rfl (by decide) (rf_0_0 _) ?_
  refine u_getr fX10_191 dX10_wish_4 sh_1 rfl (by decide) (rf_1_1 _) ?_
  refine v_iload_n dX10_wish_7 rfl rfl ?_
  refine u_callV [.int a1] mX5_has iX5_has lX10_202 dX10_wish_8 sh_9 rfl rfl (by decide) ⟨rfl, rfl, id⟩ rfl rfl (Nat.le_of_ble_eq_true rfl) (Nat.le_of_ble_eq_true rfl) (v_X5_has a1 _ _ h) ?_
  rintro _ τ2 ⟨r1, rfl, h⟩
  refine v_if_eq (tgt := 34) dX10_wish_11 (by decide) (fun c3 => ?_) (fun c3 => ?_)
  · have h := h.1 c3
    refine v_bipush (v := -2) dX10_wish_34 (by decide) ?_
    exact u_iret dX10_wish_36 ⟨rfl, id⟩ h
  · have h := h.2 c3
    refine v_aload_n dX10_wish_14 rfl rfl ?_
    refine u_getr fX10_10 dX10_wish_15 sh_0 rfl (by decide) (rf_0_0 _) ?_
    refine v_iload_n dX10_wish_18 rfl rfl ?_
    refine u_callV [.int a2] mX6_hasDoor iX6_hasDoor lX10_222 dX10_wish_19 sh_1 rfl rfl (by decide) ⟨rfl, rfl, id⟩ rfl rfl (Nat.le_of_ble_eq_true rfl) (Nat.le_of_ble_eq_true rfl) (v_X6_hasDoor a2 _ _ h) ?_
    rintro _ τ5 ⟨r4, rfl, h⟩
    refine v_if_eq (tgt := 34) dX10_wish_22 (by decide) (fun c6 => ?_) (fun c6 => ?_)
    · have h := h.1 c6
      refine v_bipush (v := -2) dX10_wish_34 (by decide) ?_
      exact u_iret dX10_wish_36 ⟨rfl, id⟩ h
    · have h := h.2 c6
      refine v_iload_n dX10_wish_25 rfl rfl ?_
      refine v_if_lt (tgt := 34) dX10_wish_26 (by decide) (fun c7 => ?_) (fun c7 => ?_)
      · have h := h.1 c7
        refine v_bipush (v := -2) dX10_wish_34 (by decide) ?_
        exact u_iret dX10_wish_36 ⟨rfl, id⟩ h
      · have h := h.2 c7
        refine v_iload_n dX10_wish_29 rfl rfl ?_
        refine v_iconst (v := 2) dX10_wish_30 (by decide) ?_
        refine v_icmp_le (tgt := 37) dX10_wish_31 (by decide) (fun c8 => ?_) (fun c8 => ?_)
        · have h := h.1 c8
          refine v_aload_n dX10_wish_37 rfl rfl ?_
          refine u_callV [] mX10_remember iX10_remember lX10_81 dX10_wish_38 sh_0 rfl rfl (by decide) ⟨rfl, rfl, id⟩ rfl rfl (Nat.le_of_ble_eq_true rfl) (Nat.le_of_ble_eq_true rfl) (v_X10_remember  _ _ h) ?_
          rintro _ τ10 ⟨rfl, h⟩
          refine v_aload_n dX10_wish_41 rfl rfl ?_
          refine u_getr fX10_10 dX10_wish_42 sh_0 rfl (by decide) (rf_0_0 _) ?_
          refine u_getr fX10_191 dX10_wish_45 sh_1 rfl (by decide) (rf_1_1 _) ?_
          refine v_iload_n dX10_wish_48 rfl rfl ?_
          refine v_iload_n dX10_wish_49 rfl rfl ?_
          refine v_iload_n dX10_wish_50 rfl rfl ?_
          refine u_callV [.int a1, .int a2, .int a3] mX5_exchangeWish iX5_exchangeWish lX10_277 dX10_wish_51 sh_9 rfl rfl (by decide) ⟨rfl, rfl, id⟩ rfl rfl (Nat.le_of_ble_eq_true rfl) (Nat.le_of_ble_eq_true rfl) (v_X5_exchangeWish a1 a2 a3 _ _ h) ?_
          rintro _ τ12 ⟨r11, rfl, h⟩
          exact u_iret dX10_wish_54 ⟨rfl, id⟩ h
        · have h := h.2 c8
          refine v_bipush (v := -2) dX10_wish_34 (by decide) ?_
          exact u_iret dX10_wish_36 ⟨rfl, id⟩ h
def T_X10_areCuttingSizes (a1 : Int32) (a2 : Int32) (a3 : Int32) (a4 : Int32) (τ : kT) (post : Int32 → kT → Prop) : Prop := ((a1 < (1 : Int32) → post (0 : Int32) τ) ∧ (¬ a1 < (1 : Int32) → (((6 : Int32) < a1 → post (0 : Int32) τ) ∧ (¬ (6 : Int32) < a1 → ((a2 < (1 : Int32) → post (0 : Int32) τ) ∧ (¬ a2 < (1 : Int32) → (((6 : Int32) < a2 → post (0 : Int32) τ) ∧ (¬ (6 : Int32) < a2 → ((a3 < (1 : Int32) → post (0 : Int32) τ) ∧ (¬ a3 < (1 : Int32) → (((5 : Int32) < a3 → post (0 : Int32) τ) ∧ (¬ (5 : Int32) < a3 → ((a4 < 0 → post (0 : Int32) τ) ∧ (¬ a4 < 0 → (((9 : Int32) < a4 → post (0 : Int32) τ) ∧ (¬ (9 : Int32) < a4 → post (1 : Int32) τ))))))))))))))))
set_option maxRecDepth 100000 in
set_option maxHeartbeats 4000000 in
theorem v_X10_areCuttingSizes {d : Nat}  (a1 : Int32) (a2 : Int32) (a3 : Int32) (a4 : Int32) (τ : kT) (post : Int32 → kT → Prop) (h : T_X10_areCuttingSizes  a1 a2 a3 a4 τ post) : U yX10_areCuttingSizes cX10_areCuttingSizes 4 (some .boolean) (d + 0) kE0 0 [some (.int a1), some (.int a2), some (.int a3), some (.int a4)] [] τ (k_pi post) := by
  unfold T_X10_areCuttingSizes at h
  refine v_iload_n dX10_areCuttingSizes_0 rfl rfl ?_
  refine v_iconst (v := 1) dX10_areCuttingSizes_1 (by decide) ?_
  refine v_icmp_lt (tgt := 46) dX10_areCuttingSizes_2 (by decide) (fun c1 => ?_) (fun c1 => ?_)
  · have h := h.1 c1
    refine v_iconst (v := 0) dX10_areCuttingSizes_46 (by decide) ?_
    exact u_zret dX10_areCuttingSizes_47 rfl ⟨rfl, id⟩ h
  · have h := h.2 c1
    refine v_iload_n dX10_areCuttingSizes_5 rfl rfl ?_
    refine v_bipush (v := 6) dX10_areCuttingSizes_6 (by decide) ?_
    refine v_icmp_gt (tgt := 46) dX10_areCuttingSizes_8 (by decide) (fun c2 => ?_) (fun c2 => ?_)
    · have h := h.1 c2
      refine v_iconst (v := 0) dX10_areCuttingSizes_46 (by decide) ?_
      exact u_zret dX10_areCuttingSizes_47 rfl ⟨rfl, id⟩ h
    · have h := h.2 c2
      refine v_iload_n dX10_areCuttingSizes_11 rfl rfl ?_
      refine v_iconst (v := 1) dX10_areCuttingSizes_12 (by decide) ?_
      refine v_icmp_lt (tgt := 46) dX10_areCuttingSizes_13 (by decide) (fun c3 => ?_) (fun c3 => ?_)
      · have h := h.1 c3
        refine v_iconst (v := 0) dX10_areCuttingSizes_46 (by decide) ?_
        exact u_zret dX10_areCuttingSizes_47 rfl ⟨rfl, id⟩ h
      · have h := h.2 c3
        refine v_iload_n dX10_areCuttingSizes_16 rfl rfl ?_
        refine v_bipush (v := 6) dX10_areCuttingSizes_17 (by decide) ?_
        refine v_icmp_gt (tgt := 46) dX10_areCuttingSizes_19 (by decide) (fun c4 => ?_) (fun c4 => ?_)
        · have h := h.1 c4
          refine v_iconst (v := 0) dX10_areCuttingSizes_46 (by decide) ?_
          exact u_zret dX10_areCuttingSizes_47 rfl ⟨rfl, id⟩ h
        · have h := h.2 c4
          refine v_iload_n dX10_areCuttingSizes_22 rfl rfl ?_
          refine v_iconst (v := 1) dX10_areCuttingSizes_23 (by decide) ?_
          refine v_icmp_lt (tgt := 46) dX10_areCuttingSizes_24 (by decide) (fun c5 => ?_) (fun c5 => ?_)
          · have h := h.1 c5
            refine v_iconst (v := 0) dX10_areCuttingSizes_46 (by decide) ?_
            exact u_zret dX10_areCuttingSizes_47 rfl ⟨rfl, id⟩ h
          · have h := h.2 c5
            refine v_iload_n dX10_areCuttingSizes_27 rfl rfl ?_
            refine v_iconst (v := 5) dX10_areCuttingSizes_28 (by decide) ?_
            refine v_icmp_gt (tgt := 46) dX10_areCuttingSizes_29 (by decide) (fun c6 => ?_) (fun c6 => ?_)
            · have h := h.1 c6
              refine v_iconst (v := 0) dX10_areCuttingSizes_46 (by decide) ?_
              exact u_zret dX10_areCuttingSizes_47 rfl ⟨rfl, id⟩ h
            · have h := h.2 c6
              refine v_iload_n dX10_areCuttingSizes_32 rfl rfl ?_
              refine v_if_lt (tgt := 46) dX10_areCuttingSizes_33 (by decide) (fun c7 => ?_) (fun c7 => ?_)
              · have h := h.1 c7
                refine v_iconst (v := 0) dX10_areCuttingSizes_46 (by decide) ?_
                exact u_zret dX10_areCuttingSizes_47 rfl ⟨rfl, id⟩ h
              · have h := h.2 c7
                refine v_iload_n dX10_areCuttingSizes_36 rfl rfl ?_
                refine v_bipush (v := 9) dX10_areCuttingSizes_37 (by decide) ?_
                refine v_icmp_gt (tgt := 46) dX10_areCuttingSizes_39 (by decide) (fun c8 => ?_) (fun c8 => ?_)
                · have h := h.1 c8
                  refine v_iconst (v := 0) dX10_areCuttingSizes_46 (by decide) ?_
                  exact u_zret dX10_areCuttingSizes_47 rfl ⟨rfl, id⟩ h
                · have h := h.2 c8
                  refine v_iconst (v := 1) dX10_areCuttingSizes_42 (by decide) ?_
                  refine v_goto (tgt := 47) dX10_areCuttingSizes_43 (by decide) ?_
                  exact u_zret dX10_areCuttingSizes_47 rfl ⟨rfl, id⟩ h
def L_X10_isFittedAhead_2  (f1 : Int32) (f2 : Int32) (K : Int32 → kT → Prop) (post : Int32 → kT → Prop) : Nat → Int32 → kT → Prop
  | 0, _, _ => False
  | n + 1, x3, τ => ((f2 ≤ x3 → K x3 τ) ∧ (¬ f2 ≤ x3 → (∃ j2 : Nat, x3 = nI j2 ∧ j2 < 40 ∧ ((¬ (q_i τ 19 j2) = f1 → (∀ v4 : Int32, v4 = x3 + (1 : Int32) → L_X10_isFittedAhead_2 f1 f2 K post n v4 τ)) ∧ ((q_i τ 19 j2) = f1 → post (1 : Int32) τ)))))
def T_X10_isFittedAhead (a1 : Int32) (a2 : Int32) (τ : kT) (post : Int32 → kT → Prop) : Prop := (∃ m5 : Nat, L_X10_isFittedAhead_2  a1 a2 (fun v6 τ7 => post (0 : Int32) τ7) post m5 (0 : Int32) τ)
set_option maxRecDepth 100000 in
set_option maxHeartbeats 4000000 in
theorem l_X10_isFittedAhead_2 {d : Nat}  (f1 : Int32) (f2 : Int32) {K : Int32 → kT → Prop} {post : Int32 → kT → Prop} (hK : ∀ (x3 : Int32) (τ : kT), K x3 τ → U yX10_isFittedAhead cX10_isFittedAhead 4 (some .boolean) (d + 0) kE0 28 [some (.ref 0), some (.int f1), some (.int f2), some (.int x3)] [] τ (k_pi post)) : ∀ (n : Nat) (x3 : Int32) (τ : kT), L_X10_isFittedAhead_2  f1 f2 K post n x3 τ → U yX10_isFittedAhead cX10_isFittedAhead 4 (some .boolean) (d + 0) kE0 2 [some (.ref 0), some (.int f1), some (.int f2), some (.int x3)] [] τ (k_pi post) := by
  intro n
  induction n with
  | zero => intro x3 τ h; exact h.elim
  | succ n ih =>
    intro x3 τ h
    unfold L_X10_isFittedAhead_2 at h
    refine v_iload_n dX10_isFittedAhead_2 rfl rfl ?_
    refine v_iload_n dX10_isFittedAhead_3 rfl rfl ?_
    refine v_icmp_ge (tgt := 28) dX10_isFittedAhead_4 (by decide) (fun c1 => ?_) (fun c1 => ?_)
    · have h := h.1 c1
      exact hK x3 _ h
    · have h := h.2 c1
      refine v_aload_n dX10_isFittedAhead_7 rfl rfl ?_
      refine u_getr fX10_10 dX10_isFittedAhead_8 sh_0 rfl (by decide) (rf_0_0 _) ?_
      refine u_getr fX10_225 dX10_isFittedAhead_11 sh_1 rfl (by decide) (rf_1_3 _) ?_
      refine v_iload_n dX10_isFittedAhead_14 rfl rfl ?_
      obtain ⟨j2, e_j2, l_j2, h⟩ := h
      refine u_iald dX10_isFittedAhead_15 sh_19 (by decide) (by decide) e_j2 l_j2 ?_
      refine v_iload_n dX10_isFittedAhead_16 rfl rfl ?_
      refine v_icmp_ne (tgt := 22) dX10_isFittedAhead_17 (by decide) (fun c3 => ?_) (fun c3 => ?_)
      · have h := h.1 c3
        obtain ⟨v4, e_v4⟩ : ∃ z : Int32, z = x3 + (1 : Int32) := ⟨_, rfl⟩
        have h := h v4 e_v4
        refine v_iinc (v := v4) dX10_isFittedAhead_22 rfl (by rw [e_v4]; rfl) (by decide) rfl ?_
        refine v_ls (ls2 := [some (.ref 0), some (.int f1), some (.int f2), some (.int v4)]) rfl ?_
        refine v_goto (tgt := 2) dX10_isFittedAhead_25 (by decide) ?_
        exact ih v4 _ h
      · have h := h.2 c3
        refine v_iconst (v := 1) dX10_isFittedAhead_20 (by decide) ?_
        exact u_zret dX10_isFittedAhead_21 rfl ⟨rfl, id⟩ h
set_option maxRecDepth 100000 in
set_option maxHeartbeats 4000000 in
theorem v_X10_isFittedAhead {d : Nat}  (a1 : Int32) (a2 : Int32) (τ : kT) (post : Int32 → kT → Prop) (h : T_X10_isFittedAhead  a1 a2 τ post) : U yX10_isFittedAhead cX10_isFittedAhead 4 (some .boolean) (d + 0) kE0 0 [some (.ref 0), some (.int a1), some (.int a2), none] [] τ (k_pi post) := by
  unfold T_X10_isFittedAhead at h
  refine v_iconst (v := 0) dX10_isFittedAhead_0 (by decide) ?_
  refine v_istore_n dX10_isFittedAhead_1 rfl (by decide) rfl ?_
  refine v_ls (ls2 := [some (.ref 0), some (.int a1), some (.int a2), some (.int (0 : Int32))]) rfl ?_
  obtain ⟨m5, h⟩ := h
  refine l_X10_isFittedAhead_2  a1 a2 (fun v6 τ7 h => ?_) m5 (0 : Int32) _ h
  refine v_iconst (v := 0) dX10_isFittedAhead_28 (by decide) ?_
  exact u_zret dX10_isFittedAhead_29 rfl ⟨rfl, id⟩ h
def L_X10_doorsRefusal_2  (f1 : Int32) (f2 : Int32) (K : Int32 → kT → Prop) (post : Int32 → kT → Prop) : Nat → Int32 → kT → Prop
  | 0, _, _ => False
  | n + 1, x3, τ => ((f1 ≤ x3 → K x3 τ) ∧ (¬ f1 ≤ x3 → (∃ j2 : Nat, x3 = nI j2 ∧ j2 < 40 ∧ (∀ v3 : Int32, v3 = (q_i τ 19 j2) → ((¬ v3 = (-1 : Int32) → (T_X4_rowFinding v3 τ (fun r5 τ6 => ((r5 = 0 → (∃ j8 : Nat, v3 = nI j8 ∧ j8 < 100 ∧ ((¬ (q_i τ6 4 j8) = f2 → post (-3 : Int32) τ6) ∧ ((q_i τ6 4 j8) = f2 → (T_X10_isFittedAhead v3 x3 τ6 (fun r10 τ11 => ((r10 = 0 → (∀ v13 : Int32, v13 = x3 + (1 : Int32) → L_X10_doorsRefusal_2 f1 f2 K post n v13 τ11)) ∧ (¬ r10 = 0 → post (-3 : Int32) τ11)))))))) ∧ (¬ r5 = 0 → post r5 τ6))))) ∧ (v3 = (-1 : Int32) → post (-11 : Int32) τ))))))
def T_X10_doorsRefusal (a1 : Int32) (a2 : Int32) (τ : kT) (post : Int32 → kT → Prop) : Prop := (∃ m14 : Nat, L_X10_doorsRefusal_2  a1 a2 (fun v15 τ16 => post (0 : Int32) τ16) post m14 (0 : Int32) τ)
set_option maxRecDepth 100000 in
set_option maxHeartbeats 4000000 in
theorem l_X10_doorsRefusal_2 {d : Nat}  (f1 : Int32) (f2 : Int32) {K : Int32 → kT → Prop} {post : Int32 → kT → Prop} (hK : ∀ (x3 : Int32) (τ : kT), K x3 τ → U yX10_doorsRefusal cX10_doorsRefusal 6 (some .int) (d + 3) kE0 85 [some (.ref 0), some (.int f1), some (.int f2), some (.int x3), none, none] [] τ (k_pi post)) : ∀ (n : Nat) (x3 : Int32) (τ : kT), L_X10_doorsRefusal_2  f1 f2 K post n x3 τ → U yX10_doorsRefusal cX10_doorsRefusal 6 (some .int) (d + 3) kE0 2 [some (.ref 0), some (.int f1), some (.int f2), some (.int x3), none, none] [] τ (k_pi post) := by
  intro n
  induction n with
  | zero => intro x3 τ h; exact h.elim
  | succ n ih =>
    intro x3 τ h
    unfold L_X10_doorsRefusal_2 at h
    refine v_iload_n dX10_doorsRefusal_2 rfl rfl ?_
    refine v_iload_n dX10_doorsRefusal_3 rfl rfl ?_
    refine v_icmp_ge (tgt := 85) dX10_doorsRefusal_4 (by decide) (fun c1 => ?_) (fun c1 => ?_)
    · have h := h.1 c1
      exact hK x3 _ h
    · have h := h.2 c1
      refine v_aload_n dX10_doorsRefusal_7 rfl rfl ?_
      refine u_getr fX10_10 dX10_doorsRefusal_8 sh_0 rfl (by decide) (rf_0_0 _) ?_
      refine u_getr fX10_225 dX10_doorsRefusal_11 sh_1 rfl (by decide) (rf_1_3 _) ?_
      refine v_iload_n dX10_doorsRefusal_14 rfl rfl ?_
      obtain ⟨j2, e_j2, l_j2, h⟩ := h
      refine u_iald dX10_doorsRefusal_15 sh_19 (by decide) (by decide) e_j2 l_j2 ?_
      refine v_topi (fun v3 e_v3 => ?_)
      have h := h v3 e_v3
      refine v_istore dX10_doorsRefusal_16 (by decide) rfl ?_
      refine v_ls (ls2 := [some (.ref 0), some (.int f1), some (.int f2), some (.int x3), some (.int v3), none]) rfl ?_
      refine v_iload dX10_doorsRefusal_18 rfl ?_
      refine v_iconst (v := -1) dX10_doorsRefusal_20 (by decide) ?_
      refine v_icmp_ne (tgt := 27) dX10_doorsRefusal_21 (by decide) (fun c4 => ?_) (fun c4 => ?_)
      · have h := h.1 c4
        refine v_aload_n dX10_doorsRefusal_27 rfl rfl ?_
        refine u_getr fX10_10 dX10_doorsRefusal_28 sh_0 rfl (by decide) (rf_0_0 _) ?_
        refine u_getr fX10_72 dX10_doorsRefusal_31 sh_1 rfl (by decide) (rf_1_0 _) ?_
        refine v_iload dX10_doorsRefusal_34 rfl ?_
        refine u_callV [.int v3] mX4_rowFinding iX4_rowFinding lX10_157 dX10_doorsRefusal_36 sh_2 rfl rfl (by decide) ⟨rfl, rfl, id⟩ rfl rfl (Nat.le_of_ble_eq_true rfl) (Nat.le_of_ble_eq_true rfl) (v_X4_rowFinding v3 _ _ h) ?_
        rintro _ τ6 ⟨r5, rfl, h⟩
        refine v_istore dX10_doorsRefusal_39 (by decide) rfl ?_
        refine v_ls (ls2 := [some (.ref 0), some (.int f1), some (.int f2), some (.int x3), some (.int v3), some (.int r5)]) rfl ?_
        refine v_iload dX10_doorsRefusal_41 rfl ?_
        refine v_if_eq (tgt := 49) dX10_doorsRefusal_43 (by decide) (fun c7 => ?_) (fun c7 => ?_)
        · have h := h.1 c7
          refine v_aload_n dX10_doorsRefusal_49 rfl rfl ?_
          refine u_getr fX10_10 dX10_doorsRefusal_50 sh_0 rfl (by decide) (rf_0_0 _) ?_
          refine u_getr fX10_72 dX10_doorsRefusal_53 sh_1 rfl (by decide) (rf_1_0 _) ?_
          refine u_getr fX10_160 dX10_doorsRefusal_56 sh_2 rfl (by decide) (rf_2_1 _) ?_
          refine v_iload dX10_doorsRefusal_59 rfl ?_
          obtain ⟨j8, e_j8, l_j8, h⟩ := h
          refine u_iald dX10_doorsRefusal_61 sh_4 (by decide) (by decide) e_j8 l_j8 ?_
          refine v_iload_n dX10_doorsRefusal_62 rfl rfl ?_
          refine v_icmp_ne (tgt := 76) dX10_doorsRefusal_63 (by decide) (fun c9 => ?_) (fun c9 => ?_)
          · have h := h.1 c9
            refine v_bipush (v := -3) dX10_doorsRefusal_76 (by decide) ?_
            exact u_iret dX10_doorsRefusal_78 ⟨rfl, id⟩ h
          · have h := h.2 c9
            refine v_aload_n dX10_doorsRefusal_66 rfl rfl ?_
            refine v_iload dX10_doorsRefusal_67 rfl ?_
            refine v_iload_n dX10_doorsRefusal_69 rfl rfl ?_
            refine u_callV [.int v3, .int x3] mX10_isFittedAhead iX10_isFittedAhead lX10_318 dX10_doorsRefusal_70 sh_0 rfl rfl (by decide) ⟨rfl, rfl, id⟩ rfl rfl (Nat.le_of_ble_eq_true rfl) (Nat.le_of_ble_eq_true rfl) (v_X10_isFittedAhead v3 x3 _ _ h) ?_
            rintro _ τ11 ⟨r10, rfl, h⟩
            refine v_if_eq (tgt := 79) dX10_doorsRefusal_73 (by decide) (fun c12 => ?_) (fun c12 => ?_)
            · have h := h.1 c12
              obtain ⟨v13, e_v13⟩ : ∃ z : Int32, z = x3 + (1 : Int32) := ⟨_, rfl⟩
              have h := h v13 e_v13
              refine v_iinc (v := v13) dX10_doorsRefusal_79 rfl (by rw [e_v13]; rfl) (by decide) rfl ?_
              refine v_ls (ls2 := [some (.ref 0), some (.int f1), some (.int f2), some (.int v13), some (.int v3), some (.int r5)]) rfl ?_
              refine v_goto (tgt := 2) dX10_doorsRefusal_82 (by decide) ?_
              refine v_none 4 ?_
              refine v_ls (ls2 := [some (.ref 0), some (.int f1), some (.int f2), some (.int v13), none, some (.int r5)]) rfl ?_
              refine v_none 5 ?_
              refine v_ls (ls2 := [some (.ref 0), some (.int f1), some (.int f2), some (.int v13), none, none]) rfl ?_
              exact ih v13 _ h
            · have h := h.2 c12
              refine v_bipush (v := -3) dX10_doorsRefusal_76 (by decide) ?_
              exact u_iret dX10_doorsRefusal_78 ⟨rfl, id⟩ h
        · have h := h.2 c7
          refine v_iload dX10_doorsRefusal_46 rfl ?_
          exact u_iret dX10_doorsRefusal_48 ⟨rfl, id⟩ h
      · have h := h.2 c4
        refine v_bipush (v := -11) dX10_doorsRefusal_24 (by decide) ?_
        exact u_iret dX10_doorsRefusal_26 ⟨rfl, id⟩ h
set_option maxRecDepth 100000 in
set_option maxHeartbeats 4000000 in
theorem v_X10_doorsRefusal {d : Nat}  (a1 : Int32) (a2 : Int32) (τ : kT) (post : Int32 → kT → Prop) (h : T_X10_doorsRefusal  a1 a2 τ post) : U yX10_doorsRefusal cX10_doorsRefusal 6 (some .int) (d + 3) kE0 0 [some (.ref 0), some (.int a1), some (.int a2), none, none, none] [] τ (k_pi post) := by
  unfold T_X10_doorsRefusal at h
  refine v_iconst (v := 0) dX10_doorsRefusal_0 (by decide) ?_
  refine v_istore_n dX10_doorsRefusal_1 rfl (by decide) rfl ?_
  refine v_ls (ls2 := [some (.ref 0), some (.int a1), some (.int a2), some (.int (0 : Int32)), none, none]) rfl ?_
  obtain ⟨m14, h⟩ := h
  refine l_X10_doorsRefusal_2  a1 a2 (fun v15 τ16 h => ?_) m14 (0 : Int32) _ h
  refine v_iconst (v := 0) dX10_doorsRefusal_85 (by decide) ?_
  exact u_iret dX10_doorsRefusal_86 ⟨rfl, id⟩ h
def T_X3_begin (a1 : Int32) (a2 : Int32) (a3 : Int32) (a4 : Int32) (τ : kT) (post : kT → Prop) : Prop := (∀ τ1 : kT, τ1 = q_si τ 45 1 a1 → (∀ τ2 : kT, τ2 = q_si τ1 45 2 a2 → (∀ τ3 : kT, τ3 = q_si τ2 45 3 a3 → (∀ τ4 : kT, τ4 = q_si τ3 45 4 a4 → post τ4))))
set_option maxRecDepth 100000 in
set_option maxHeartbeats 4000000 in
theorem v_X3_begin {d : Nat}  (a1 : Int32) (a2 : Int32) (a3 : Int32) (a4 : Int32) (τ : kT) (post : kT → Prop) (h : T_X3_begin  a1 a2 a3 a4 τ post) : U yX3_begin cX3_begin 5 none (d + 0) kE0 0 [some (.ref 45), some (.int a1), some (.int a2), some (.int a3), some (.int a4)] [] τ (k_pv post) := by
  unfold T_X3_begin at h
  refine v_aload_n dX3_begin_0 rfl rfl ?_
  refine v_iload_n dX3_begin_1 rfl rfl ?_
  refine u_puti pX3_39 ⟨_, rfl⟩ dX3_begin_2 sh_45 rfl (by decide) (by decide) (fun τ1 e_τ1 => ?_)
  have h := h τ1 e_τ1
  refine v_aload_n dX3_begin_5 rfl rfl ?_
  refine v_iload_n dX3_begin_6 rfl rfl ?_
  refine u_puti pX3_42 ⟨_, rfl⟩ dX3_begin_7 sh_45 rfl (by decide) (by decide) (fun τ2 e_τ2 => ?_)
  have h := h τ2 e_τ2
  refine v_aload_n dX3_begin_10 rfl rfl ?_
  refine v_iload_n dX3_begin_11 rfl rfl ?_
  refine u_puti pX3_45 ⟨_, rfl⟩ dX3_begin_12 sh_45 rfl (by decide) (by decide) (fun τ3 e_τ3 => ?_)
  have h := h τ3 e_τ3
  refine v_aload_n dX3_begin_15 rfl rfl ?_
  refine v_iload dX3_begin_16 rfl ?_
  refine u_puti pX3_48 ⟨_, rfl⟩ dX3_begin_18 sh_45 rfl (by decide) (by decide) (fun τ4 e_τ4 => ?_)
  have h := h τ4 e_τ4
  exact u_vret dX3_begin_21 ⟨rfl, id⟩ h
def L_X3_readDoors_62  (f2 : Int32) (f3 : Int32) (K : Int32 → kT → Prop) (post : kT → Prop) : Nat → Int32 → kT → Prop
  | 0, _, _ => False
  | n + 1, x4, τ => (((q_i τ 45 3) ≤ x4 → K x4 τ) ∧ (¬ (q_i τ 45 3) ≤ x4 → (T_X4_heightsIn f3 x4 τ (fun r13 τ14 => (∃ j15 : Nat, ((f2 * (5 : Int32)) + x4) = nI j15 ∧ j15 < 30 ∧ (∀ τ16 : kT, τ16 = q_si τ14 50 j15 r13 → (∀ v17 : Int32, v17 = x4 + (1 : Int32) → L_X3_readDoors_62 f2 f3 K post n v17 τ16)))))))
def L_X3_readDoors_7   (K : Int32 → kT → Prop) (post : kT → Prop) : Nat → Int32 → kT → Prop
  | 0, _, _ => False
  | n + 1, x2, τ => (((q_i τ 45 2) ≤ x2 → K x2 τ) ∧ (¬ (q_i τ 45 2) ≤ x2 → (∃ j3 : Nat, x2 = nI j3 ∧ j3 < 40 ∧ (∀ v4 : Int32, v4 = (q_i τ 19 j3) → (T_X4_most v4 τ (fun r5 τ6 => (∃ j7 : Nat, x2 = nI j7 ∧ j7 < 6 ∧ (∀ τ8 : kT, τ8 = q_si τ6 49 j7 r5 → (T_X4_isBlind v4 τ8 (fun r9 τ10 => ((r9 = 0 → (∃ m18 : Nat, L_X3_readDoors_62  x2 v4 (fun v19 τ20 => (∀ v21 : Int32, v21 = x2 + (1 : Int32) → L_X3_readDoors_7  K post n v21 τ20)) post m18 (0 : Int32) τ10)) ∧ (¬ r9 = 0 → (∀ τ22 : kT, τ22 = q_si τ10 45 11 ((q_i τ10 45 11) ||| ((1 : Int32) <<< (x2 &&& 31))) → (∃ m23 : Nat, L_X3_readDoors_62  x2 v4 (fun v24 τ25 => (∀ v26 : Int32, v26 = x2 + (1 : Int32) → L_X3_readDoors_7  K post n v26 τ25)) post m23 (0 : Int32) τ22))))))))))))))
def T_X3_readDoors  (τ : kT) (post : kT → Prop) : Prop := (∀ τ1 : kT, τ1 = q_si τ 45 11 (0 : Int32) → (∃ m27 : Nat, L_X3_readDoors_7   (fun v28 τ29 => post τ29) post m27 (0 : Int32) τ1))
set_option maxRecDepth 100000 in
set_option maxHeartbeats 4000000 in
theorem l_X3_readDoors_62 {d : Nat}  (f2 : Int32) (f3 : Int32) {K : Int32 → kT → Prop} {post : kT → Prop} (hK : ∀ (x4 : Int32) (τ : kT), K x4 τ → U yX3_readDoors cX3_readDoors 5 none (d + 3) kE0 98 [some (.ref 45), some (.ref 1), some (.int f2), some (.int f3), some (.int x4)] [] τ (k_pv post)) : ∀ (n : Nat) (x4 : Int32) (τ : kT), L_X3_readDoors_62  f2 f3 K post n x4 τ → U yX3_readDoors cX3_readDoors 5 none (d + 3) kE0 62 [some (.ref 45), some (.ref 1), some (.int f2), some (.int f3), some (.int x4)] [] τ (k_pv post) := by
  intro n
  induction n with
  | zero => intro x4 τ h; exact h.elim
  | succ n ih =>
    intro x4 τ h
    unfold L_X3_readDoors_62 at h
    refine v_iload dX3_readDoors_62 rfl ?_
    refine v_aload_n dX3_readDoors_64 rfl rfl ?_
    refine u_geti fX3_45 dX3_readDoors_65 sh_45 rfl (by decide) ?_
    refine v_icmp_ge (tgt := 98) dX3_readDoors_68 (by decide) (fun c12 => ?_) (fun c12 => ?_)
    · have h := h.1 c12
      exact hK x4 _ h
    · have h := h.2 c12
      refine v_aload_n dX3_readDoors_71 rfl rfl ?_
      refine u_getr fX3_28 dX3_readDoors_72 sh_45 rfl (by decide) (rf_45_13 _) ?_
      refine v_iload_n dX3_readDoors_75 rfl rfl ?_
      refine v_iconst (v := 5) dX3_readDoors_76 (by decide) ?_
      refine v_imul dX3_readDoors_77 ?_
      refine v_iload dX3_readDoors_78 rfl ?_
      refine v_iadd dX3_readDoors_80 ?_
      refine v_aload_n dX3_readDoors_81 rfl rfl ?_
      refine u_getr fX3_59 dX3_readDoors_82 sh_1 rfl (by decide) (rf_1_0 _) ?_
      refine v_iload_n dX3_readDoors_85 rfl rfl ?_
      refine v_iload dX3_readDoors_86 rfl ?_
      refine u_callV [.int f3, .int x4] mX4_heightsIn iX4_heightsIn lX3_72 dX3_readDoors_88 sh_2 rfl rfl (by decide) ⟨rfl, rfl, id⟩ rfl rfl (Nat.le_of_ble_eq_true rfl) (Nat.le_of_ble_eq_true rfl) (v_X4_heightsIn f3 x4 _ _ h) ?_
      rintro _ τ14 ⟨r13, rfl, h⟩
      obtain ⟨j15, e_j15, l_j15, h⟩ := h
      refine u_iast dX3_readDoors_91 sh_50 (by decide) (by decide) e_j15 l_j15 (fun τ16 e_τ16 => ?_)
      have h := h τ16 e_τ16
      obtain ⟨v17, e_v17⟩ : ∃ z : Int32, z = x4 + (1 : Int32) := ⟨_, rfl⟩
      have h := h v17 e_v17
      refine v_iinc (v := v17) dX3_readDoors_92 rfl (by rw [e_v17]; rfl) (by decide) rfl ?_
      refine v_ls (ls2 := [some (.ref 45), some (.ref 1), some (.int f2), some (.int f3), some (.int v17)]) rfl ?_
      refine v_goto (tgt := 62) dX3_readDoors_95 (by decide) ?_
      exact ih v17 _ h
set_option maxRecDepth 100000 in
set_option maxHeartbeats 4000000 in
theorem l_X3_readDoors_7 {d : Nat}   {K : Int32 → kT → Prop} {post : kT → Prop} (hK : ∀ (x2 : Int32) (τ : kT), K x2 τ → U yX3_readDoors cX3_readDoors 5 none (d + 3) kE0 104 [some (.ref 45), some (.ref 1), some (.int x2), none, none] [] τ (k_pv post)) : ∀ (n : Nat) (x2 : Int32) (τ : kT), L_X3_readDoors_7   K post n x2 τ → U yX3_readDoors cX3_readDoors 5 none (d + 3) kE0 7 [some (.ref 45), some (.ref 1), some (.int x2), none, none] [] τ (k_pv post) := by
  intro n
  induction n with
  | zero => intro x2 τ h; exact h.elim
  | succ n ih =>
    intro x2 τ h
    unfold L_X3_readDoors_7 at h
    refine v_iload_n dX3_readDoors_7 rfl rfl ?_
    refine v_aload_n dX3_readDoors_8 rfl rfl ?_
    refine u_geti fX3_42 dX3_readDoors_9 sh_45 rfl (by decide) ?_
    refine v_icmp_ge (tgt := 104) dX3_readDoors_12 (by decide) (fun c2 => ?_) (fun c2 => ?_)
    · have h := h.1 c2
      exact hK x2 _ h
    · have h := h.2 c2
      refine v_aload_n dX3_readDoors_15 rfl rfl ?_
      refine u_getr fX3_54 dX3_readDoors_16 sh_1 rfl (by decide) (rf_1_3 _) ?_
      refine v_iload_n dX3_readDoors_19 rfl rfl ?_
      obtain ⟨j3, e_j3, l_j3, h⟩ := h
      refine u_iald dX3_readDoors_20 sh_19 (by decide) (by decide) e_j3 l_j3 ?_
      refine v_topi (fun v4 e_v4 => ?_)
      have h := h v4 e_v4
      refine v_istore_n dX3_readDoors_21 rfl (by decide) rfl ?_
      refine v_ls (ls2 := [some (.ref 45), some (.ref 1), some (.int x2), some (.int v4), none]) rfl ?_
      refine v_aload_n dX3_readDoors_22 rfl rfl ?_
      refine u_getr fX3_25 dX3_readDoors_23 sh_45 rfl (by decide) (rf_45_12 _) ?_
      refine v_iload_n dX3_readDoors_26 rfl rfl ?_
      refine v_aload_n dX3_readDoors_27 rfl rfl ?_
      refine u_getr fX3_59 dX3_readDoors_28 sh_1 rfl (by decide) (rf_1_0 _) ?_
      refine v_iload_n dX3_readDoors_31 rfl rfl ?_
      refine u_callV [.int v4] mX4_most iX4_most lX3_63 dX3_readDoors_32 sh_2 rfl rfl (by decide) ⟨rfl, rfl, id⟩ rfl rfl (Nat.le_of_ble_eq_true rfl) (Nat.le_of_ble_eq_true rfl) (v_X4_most v4 _ _ h) ?_
      rintro _ τ6 ⟨r5, rfl, h⟩
      obtain ⟨j7, e_j7, l_j7, h⟩ := h
      refine u_iast dX3_readDoors_35 sh_49 (by decide) (by decide) e_j7 l_j7 (fun τ8 e_τ8 => ?_)
      have h := h τ8 e_τ8
      refine v_aload_n dX3_readDoors_36 rfl rfl ?_
      refine u_getr fX3_59 dX3_readDoors_37 sh_1 rfl (by decide) (rf_1_0 _) ?_
      refine v_iload_n dX3_readDoors_40 rfl rfl ?_
      refine u_callV [.int v4] mX4_isBlind iX4_isBlind lX3_68 dX3_readDoors_41 sh_2 rfl rfl (by decide) ⟨rfl, rfl, id⟩ rfl rfl (Nat.le_of_ble_eq_true rfl) (Nat.le_of_ble_eq_true rfl) (v_X4_isBlind v4 _ _ h) ?_
      rintro _ τ10 ⟨r9, rfl, h⟩
      refine v_if_eq (tgt := 59) dX3_readDoors_44 (by decide) (fun c11 => ?_) (fun c11 => ?_)
      · have h := h.1 c11
        refine v_iconst (v := 0) dX3_readDoors_59 (by decide) ?_
        refine v_istore dX3_readDoors_60 (by decide) rfl ?_
        refine v_ls (ls2 := [some (.ref 45), some (.ref 1), some (.int x2), some (.int v4), some (.int (0 : Int32))]) rfl ?_
        obtain ⟨m18, h⟩ := h
        refine l_X3_readDoors_62  x2 v4 (fun v19 τ20 h => ?_) m18 (0 : Int32) _ h
        obtain ⟨v21, e_v21⟩ : ∃ z : Int32, z = x2 + (1 : Int32) := ⟨_, rfl⟩
        have h := h v21 e_v21
        refine v_iinc (v := v21) dX3_readDoors_98 rfl (by rw [e_v21]; rfl) (by decide) rfl ?_
        refine v_ls (ls2 := [some (.ref 45), some (.ref 1), some (.int v21), some (.int v4), some (.int v19)]) rfl ?_
        refine v_goto (tgt := 7) dX3_readDoors_101 (by decide) ?_
        refine v_none 3 ?_
        refine v_ls (ls2 := [some (.ref 45), some (.ref 1), some (.int v21), none, some (.int v19)]) rfl ?_
        refine v_none 4 ?_
        refine v_ls (ls2 := [some (.ref 45), some (.ref 1), some (.int v21), none, none]) rfl ?_
        exact ih v21 _ h
      · have h := h.2 c11
        refine v_aload_n dX3_readDoors_47 rfl rfl ?_
        refine v_dup dX3_readDoors_48 rfl ?_
        refine u_geti fX3_51 dX3_readDoors_49 sh_45 rfl (by decide) ?_
        refine v_iconst (v := 1) dX3_readDoors_52 (by decide) ?_
        refine v_iload_n dX3_readDoors_53 rfl rfl ?_
        refine v_ishl dX3_readDoors_54 ?_
        refine v_ior dX3_readDoors_55 ?_
        refine u_puti pX3_51 ⟨_, rfl⟩ dX3_readDoors_56 sh_45 rfl (by decide) (by decide) (fun τ22 e_τ22 => ?_)
        have h := h τ22 e_τ22
        refine v_iconst (v := 0) dX3_readDoors_59 (by decide) ?_
        refine v_istore dX3_readDoors_60 (by decide) rfl ?_
        refine v_ls (ls2 := [some (.ref 45), some (.ref 1), some (.int x2), some (.int v4), some (.int (0 : Int32))]) rfl ?_
        obtain ⟨m23, h⟩ := h
        refine l_X3_readDoors_62  x2 v4 (fun v24 τ25 h => ?_) m23 (0 : Int32) _ h
        obtain ⟨v26, e_v26⟩ : ∃ z : Int32, z = x2 + (1 : Int32) := ⟨_, rfl⟩
        have h := h v26 e_v26
        refine v_iinc (v := v26) dX3_readDoors_98 rfl (by rw [e_v26]; rfl) (by decide) rfl ?_
        refine v_ls (ls2 := [some (.ref 45), some (.ref 1), some (.int v26), some (.int v4), some (.int v24)]) rfl ?_
        refine v_goto (tgt := 7) dX3_readDoors_101 (by decide) ?_
        refine v_none 3 ?_
        refine v_ls (ls2 := [some (.ref 45), some (.ref 1), some (.int v26), none, some (.int v24)]) rfl ?_
        refine v_none 4 ?_
        refine v_ls (ls2 := [some (.ref 45), some (.ref 1), some (.int v26), none, none]) rfl ?_
        exact ih v26 _ h
set_option maxRecDepth 100000 in
set_option maxHeartbeats 4000000 in
theorem v_X3_readDoors {d : Nat}   (τ : kT) (post : kT → Prop) (h : T_X3_readDoors   τ post) : U yX3_readDoors cX3_readDoors 5 none (d + 3) kE0 0 [some (.ref 45), some (.ref 1), none, none, none] [] τ (k_pv post) := by
  unfold T_X3_readDoors at h
  refine v_aload_n dX3_readDoors_0 rfl rfl ?_
  refine v_iconst (v := 0) dX3_readDoors_1 (by decide) ?_
  refine u_puti pX3_51 ⟨_, rfl⟩ dX3_readDoors_2 sh_45 rfl (by decide) (by decide) (fun τ1 e_τ1 => ?_)
  have h := h τ1 e_τ1
  refine v_iconst (v := 0) dX3_readDoors_5 (by decide) ?_
  refine v_istore_n dX3_readDoors_6 rfl (by decide) rfl ?_
  refine v_ls (ls2 := [some (.ref 45), some (.ref 1), some (.int (0 : Int32)), none, none]) rfl ?_
  obtain ⟨m27, h⟩ := h
  refine l_X3_readDoors_7   (fun v28 τ29 h => ?_) m27 (0 : Int32) _ h
  exact u_vret dX3_readDoors_104 ⟨rfl, id⟩ h
def L_X3_readKeys_27  (f2 : Int32) (f3 : Int64) (K : Int32 → kT → Prop) (post : kT → Prop) : Nat → Int32 → kT → Prop
  | 0, _, _ => False
  | n + 1, x5, τ => (((q_i τ 45 1) ≤ x5 → K x5 τ) ∧ (¬ (q_i τ 45 1) ≤ x5 → ((¬ x5 = f2 → (∃ j7 : Nat, x5 = nI j7 ∧ j7 < 100 ∧ (∃ j8 : Nat, x5 = nI j8 ∧ j8 < 6 ∧ (∀ τ9 : kT, τ9 = q_si τ 47 j8 ((((q_l τ 13 j7) &&& f3)).toInt32) → (∃ j10 : Nat, x5 = nI j10 ∧ j10 < 100 ∧ (∃ j11 : Nat, x5 = nI j11 ∧ j11 < 6 ∧ (∀ τ12 : kT, τ12 = q_si τ9 48 j11 ((((q_l τ9 14 j10) &&& f3)).toInt32) → (∃ j13 : Nat, x5 = nI j13 ∧ j13 < 6 ∧ (∀ τ14 : kT, τ14 = q_si τ12 45 10 ((q_i τ12 45 10) ||| (q_i τ12 47 j13)) → (∃ j15 : Nat, (q_i τ14 45 6) = nI j15 ∧ j15 < 6 ∧ (∀ τ16 : kT, τ16 = q_si τ14 46 j15 x5 → (∀ τ17 : kT, τ17 = q_si τ16 45 6 ((q_i τ16 45 6) + (1 : Int32)) → (∀ v18 : Int32, v18 = x5 + (1 : Int32) → L_X3_readKeys_27 f2 f3 K post n v18 τ17))))))))))))) ∧ (x5 = f2 → (∀ v19 : Int32, v19 = x5 + (1 : Int32) → L_X3_readKeys_27 f2 f3 K post n v19 τ)))))
def T_X3_readKeys (a1 : Int32) (τ : kT) (post : kT → Prop) : Prop := (∀ v1 : Int64, v1 = (((1 : Int64) <<< ((q_i τ 45 2).toInt64 &&& 63)) - (1 : Int64)) → (∀ τ2 : kT, τ2 = q_si τ 45 7 (-1 : Int32) → (∀ τ3 : kT, τ3 = q_si τ2 45 6 (0 : Int32) → (∀ τ4 : kT, τ4 = q_si τ3 45 10 (0 : Int32) → (∃ m20 : Nat, L_X3_readKeys_27  a1 v1 (fun v21 τ22 => post τ22) post m20 (0 : Int32) τ4)))))
set_option maxRecDepth 100000 in
set_option maxHeartbeats 4000000 in
theorem l_X3_readKeys_27 {d : Nat}  (f2 : Int32) (f3 : Int64) {K : Int32 → kT → Prop} {post : kT → Prop} (hK : ∀ (x5 : Int32) (τ : kT), K x5 τ → U yX3_readKeys cX3_readKeys 6 none (d + 0) kE0 122 [some (.ref 45), some (.ref 9), some (.int f2), some (.long f3), none, some (.int x5)] [] τ (k_pv post)) : ∀ (n : Nat) (x5 : Int32) (τ : kT), L_X3_readKeys_27  f2 f3 K post n x5 τ → U yX3_readKeys cX3_readKeys 6 none (d + 0) kE0 27 [some (.ref 45), some (.ref 9), some (.int f2), some (.long f3), none, some (.int x5)] [] τ (k_pv post) := by
  intro n
  induction n with
  | zero => intro x5 τ h; exact h.elim
  | succ n ih =>
    intro x5 τ h
    unfold L_X3_readKeys_27 at h
    refine v_iload dX3_readKeys_27 rfl ?_
    refine v_aload_n dX3_readKeys_29 rfl rfl ?_
    refine u_geti fX3_39 dX3_readKeys_30 sh_45 rfl (by decide) ?_
    refine v_icmp_ge (tgt := 122) dX3_readKeys_33 (by decide) (fun c5 => ?_) (fun c5 => ?_)
    · have h := h.1 c5
      exact hK x5 _ h
    · have h := h.2 c5
      refine v_iload dX3_readKeys_36 rfl ?_
      refine v_iload_n dX3_readKeys_38 rfl rfl ?_
      refine v_icmp_ne (tgt := 45) dX3_readKeys_39 (by decide) (fun c6 => ?_) (fun c6 => ?_)
      · have h := h.1 c6
        refine v_aload_n dX3_readKeys_45 rfl rfl ?_
        refine u_getr fX3_19 dX3_readKeys_46 sh_45 rfl (by decide) (rf_45_8 _) ?_
        refine v_iload dX3_readKeys_49 rfl ?_
        refine v_aload_n dX3_readKeys_51 rfl rfl ?_
        refine u_getr fX3_85 dX3_readKeys_52 sh_9 rfl (by decide) (rf_9_3 _) ?_
        refine v_iload dX3_readKeys_55 rfl ?_
        obtain ⟨j7, e_j7, l_j7, h⟩ := h
        refine u_lald dX3_readKeys_57 sh_13 (by decide) (by decide) e_j7 l_j7 ?_
        refine v_lload_n dX3_readKeys_58 rfl rfl ?_
        refine v_land dX3_readKeys_59 ?_
        refine v_l2i dX3_readKeys_60 ?_
        obtain ⟨j8, e_j8, l_j8, h⟩ := h
        refine u_iast dX3_readKeys_61 sh_47 (by decide) (by decide) e_j8 l_j8 (fun τ9 e_τ9 => ?_)
        have h := h τ9 e_τ9
        refine v_aload_n dX3_readKeys_62 rfl rfl ?_
        refine u_getr fX3_22 dX3_readKeys_63 sh_45 rfl (by decide) (rf_45_9 _) ?_
        refine v_iload dX3_readKeys_66 rfl ?_
        refine v_aload_n dX3_readKeys_68 rfl rfl ?_
        refine u_getr fX3_91 dX3_readKeys_69 sh_9 rfl (by decide) (rf_9_4 _) ?_
        refine v_iload dX3_readKeys_72 rfl ?_
        obtain ⟨j10, e_j10, l_j10, h⟩ := h
        refine u_lald dX3_readKeys_74 sh_14 (by decide) (by decide) e_j10 l_j10 ?_
        refine v_lload_n dX3_readKeys_75 rfl rfl ?_
        refine v_land dX3_readKeys_76 ?_
        refine v_l2i dX3_readKeys_77 ?_
        obtain ⟨j11, e_j11, l_j11, h⟩ := h
        refine u_iast dX3_readKeys_78 sh_48 (by decide) (by decide) e_j11 l_j11 (fun τ12 e_τ12 => ?_)
        have h := h τ12 e_τ12
        refine v_aload_n dX3_readKeys_79 rfl rfl ?_
        refine v_dup dX3_readKeys_80 rfl ?_
        refine u_geti fX3_82 dX3_readKeys_81 sh_45 rfl (by decide) ?_
        refine v_aload_n dX3_readKeys_84 rfl rfl ?_
        refine u_getr fX3_19 dX3_readKeys_85 sh_45 rfl (by decide) (rf_45_8 _) ?_
        refine v_iload dX3_readKeys_88 rfl ?_
        obtain ⟨j13, e_j13, l_j13, h⟩ := h
        refine u_iald dX3_readKeys_90 sh_47 (by decide) (by decide) e_j13 l_j13 ?_
        refine v_ior dX3_readKeys_91 ?_
        refine u_puti pX3_82 ⟨_, rfl⟩ dX3_readKeys_92 sh_45 rfl (by decide) (by decide) (fun τ14 e_τ14 => ?_)
        have h := h τ14 e_τ14
        refine v_aload_n dX3_readKeys_95 rfl rfl ?_
        refine u_getr fX3_15 dX3_readKeys_96 sh_45 rfl (by decide) (rf_45_5 _) ?_
        refine v_aload_n dX3_readKeys_99 rfl rfl ?_
        refine u_geti fX3_79 dX3_readKeys_100 sh_45 rfl (by decide) ?_
        refine v_iload dX3_readKeys_103 rfl ?_
        obtain ⟨j15, e_j15, l_j15, h⟩ := h
        refine u_iast dX3_readKeys_105 sh_46 (by decide) (by decide) e_j15 l_j15 (fun τ16 e_τ16 => ?_)
        have h := h τ16 e_τ16
        refine v_aload_n dX3_readKeys_106 rfl rfl ?_
        refine v_dup dX3_readKeys_107 rfl ?_
        refine u_geti fX3_79 dX3_readKeys_108 sh_45 rfl (by decide) ?_
        refine v_iconst (v := 1) dX3_readKeys_111 (by decide) ?_
        refine v_iadd dX3_readKeys_112 ?_
        refine u_puti pX3_79 ⟨_, rfl⟩ dX3_readKeys_113 sh_45 rfl (by decide) (by decide) (fun τ17 e_τ17 => ?_)
        have h := h τ17 e_τ17
        obtain ⟨v18, e_v18⟩ : ∃ z : Int32, z = x5 + (1 : Int32) := ⟨_, rfl⟩
        have h := h v18 e_v18
        refine v_iinc (v := v18) dX3_readKeys_116 rfl (by rw [e_v18]; rfl) (by decide) rfl ?_
        refine v_ls (ls2 := [some (.ref 45), some (.ref 9), some (.int f2), some (.long f3), none, some (.int v18)]) rfl ?_
        refine v_goto (tgt := 27) dX3_readKeys_119 (by decide) ?_
        exact ih v18 _ h
      · have h := h.2 c6
        refine v_goto (tgt := 116) dX3_readKeys_42 (by decide) ?_
        obtain ⟨v19, e_v19⟩ : ∃ z : Int32, z = x5 + (1 : Int32) := ⟨_, rfl⟩
        have h := h v19 e_v19
        refine v_iinc (v := v19) dX3_readKeys_116 rfl (by rw [e_v19]; rfl) (by decide) rfl ?_
        refine v_ls (ls2 := [some (.ref 45), some (.ref 9), some (.int f2), some (.long f3), none, some (.int v19)]) rfl ?_
        refine v_goto (tgt := 27) dX3_readKeys_119 (by decide) ?_
        exact ih v19 _ h
set_option maxRecDepth 100000 in
set_option maxHeartbeats 4000000 in
theorem v_X3_readKeys {d : Nat}  (a1 : Int32) (τ : kT) (post : kT → Prop) (h : T_X3_readKeys  a1 τ post) : U yX3_readKeys cX3_readKeys 6 none (d + 0) kE0 0 [some (.ref 45), some (.ref 9), some (.int a1), none, none, none] [] τ (k_pv post) := by
  unfold T_X3_readKeys at h
  refine v_lconst (v := 1) dX3_readKeys_0 (by decide) ?_
  refine v_aload_n dX3_readKeys_1 rfl rfl ?_
  refine u_geti fX3_42 dX3_readKeys_2 sh_45 rfl (by decide) ?_
  refine v_lshl dX3_readKeys_5 rfl ?_
  refine v_lconst (v := 1) dX3_readKeys_6 (by decide) ?_
  refine v_lsub dX3_readKeys_7 ?_
  refine v_topl (fun v1 e_v1 => ?_)
  have h := h v1 e_v1
  refine v_lstore_n dX3_readKeys_8 rfl (by decide) rfl ?_
  refine v_ls (ls2 := [some (.ref 45), some (.ref 9), some (.int a1), some (.long v1), none, none]) rfl ?_
  refine v_aload_n dX3_readKeys_9 rfl rfl ?_
  refine v_iconst (v := -1) dX3_readKeys_10 (by decide) ?_
  refine u_puti pX3_76 ⟨_, rfl⟩ dX3_readKeys_11 sh_45 rfl (by decide) (by decide) (fun τ2 e_τ2 => ?_)
  have h := h τ2 e_τ2
  refine v_aload_n dX3_readKeys_14 rfl rfl ?_
  refine v_iconst (v := 0) dX3_readKeys_15 (by decide) ?_
  refine u_puti pX3_79 ⟨_, rfl⟩ dX3_readKeys_16 sh_45 rfl (by decide) (by decide) (fun τ3 e_τ3 => ?_)
  have h := h τ3 e_τ3
  refine v_aload_n dX3_readKeys_19 rfl rfl ?_
  refine v_iconst (v := 0) dX3_readKeys_20 (by decide) ?_
  refine u_puti pX3_82 ⟨_, rfl⟩ dX3_readKeys_21 sh_45 rfl (by decide) (by decide) (fun τ4 e_τ4 => ?_)
  have h := h τ4 e_τ4
  refine v_iconst (v := 0) dX3_readKeys_24 (by decide) ?_
  refine v_istore dX3_readKeys_25 (by decide) rfl ?_
  refine v_ls (ls2 := [some (.ref 45), some (.ref 9), some (.int a1), some (.long v1), none, some (.int (0 : Int32))]) rfl ?_
  obtain ⟨m20, h⟩ := h
  refine l_X3_readKeys_27  a1 v1 (fun v21 τ22 h => ?_) m20 (0 : Int32) _ h
  exact u_vret dX3_readKeys_122 ⟨rfl, id⟩ h
def L_X3_doorsTake_16  (f1 : Int32) (f2 : Int32) (f3 : Int32) (f4 : Int32) (K : Int32 → kT → Prop) (post : Int32 → kT → Prop) : Nat → Int32 → kT → Prop
  | 0, _, _ => False
  | n + 1, x5, τ => (((q_i τ 45 2) ≤ x5 → K x5 τ) ∧ (¬ (q_i τ 45 2) ≤ x5 → (∀ v5 : Int32, v5 = ((x5 * (5 : Int32)) + f2) → ((¬ f1 = 0 → (∃ j7 : Nat, (f1 - (1 : Int32)) = nI j7 ∧ j7 < 6 ∧ (∃ j8 : Nat, v5 = nI j8 ∧ j8 < 30 ∧ (∀ v9 : Int32, v9 = (q_i τ (53 + j7) j8) → (((f4 &&& ((1 : Int32) <<< (x5 &&& 31))) = 0 → (∃ j11 : Nat, f1 = nI j11 ∧ j11 < 6 ∧ (∃ j12 : Nat, v5 = nI j12 ∧ j12 < 30 ∧ (∀ τ13 : kT, τ13 = q_si τ (53 + j11) j12 v9 → (∀ v14 : Int32, v14 = x5 + (1 : Int32) → L_X3_doorsTake_16 f1 f2 f3 f4 K post n v14 τ13))))) ∧ (¬ (f4 &&& ((1 : Int32) <<< (x5 &&& 31))) = 0 → (∀ v15 : Int32, v15 = (v9 ||| ((1 : Int32) <<< (f3 &&& 31))) → (T_J6_bitCount_0f7a4 v15 τ (fun r16 τ17 => (∃ j18 : Nat, x5 = nI j18 ∧ j18 < 6 ∧ ((r16 ≤ (q_i τ17 49 j18) → (∃ j20 : Nat, f1 = nI j20 ∧ j20 < 6 ∧ (∃ j21 : Nat, v5 = nI j21 ∧ j21 < 30 ∧ (∀ τ22 : kT, τ22 = q_si τ17 (53 + j20) j21 v15 → (∀ v23 : Int32, v23 = x5 + (1 : Int32) → L_X3_doorsTake_16 f1 f2 f3 f4 K post n v23 τ22))))) ∧ (¬ r16 ≤ (q_i τ17 49 j18) → post (0 : Int32) τ17)))))))))))) ∧ (f1 = 0 → (((f4 &&& ((1 : Int32) <<< (x5 &&& 31))) = 0 → (∃ j25 : Nat, f1 = nI j25 ∧ j25 < 6 ∧ (∃ j26 : Nat, v5 = nI j26 ∧ j26 < 30 ∧ (∀ τ27 : kT, τ27 = q_si τ (53 + j25) j26 (0 : Int32) → (∀ v28 : Int32, v28 = x5 + (1 : Int32) → L_X3_doorsTake_16 f1 f2 f3 f4 K post n v28 τ27))))) ∧ (¬ (f4 &&& ((1 : Int32) <<< (x5 &&& 31))) = 0 → (∀ v29 : Int32, v29 = ((0 : Int32) ||| ((1 : Int32) <<< (f3 &&& 31))) → (T_J6_bitCount_0f7a4 v29 τ (fun r30 τ31 => (∃ j32 : Nat, x5 = nI j32 ∧ j32 < 6 ∧ ((r30 ≤ (q_i τ31 49 j32) → (∃ j34 : Nat, f1 = nI j34 ∧ j34 < 6 ∧ (∃ j35 : Nat, v5 = nI j35 ∧ j35 < 30 ∧ (∀ τ36 : kT, τ36 = q_si τ31 (53 + j34) j35 v29 → (∀ v37 : Int32, v37 = x5 + (1 : Int32) → L_X3_doorsTake_16 f1 f2 f3 f4 K post n v37 τ36))))) ∧ (¬ r30 ≤ (q_i τ31 49 j32) → post (0 : Int32) τ31)))))))))))))
def T_X3_doorsTake (a1 : Int32) (a2 : Int32) (a3 : Int32) (τ : kT) (post : Int32 → kT → Prop) : Prop := (∃ j1 : Nat, a1 = nI j1 ∧ j1 < 6 ∧ (∃ j2 : Nat, (q_i τ 46 j1) = nI j2 ∧ j2 < 6 ∧ (∀ v3 : Int32, v3 = (q_i τ 47 j2) → (∃ m38 : Nat, L_X3_doorsTake_16  a1 a2 a3 v3 (fun v39 τ40 => post (1 : Int32) τ40) post m38 (0 : Int32) τ))))
set_option maxRecDepth 100000 in
set_option maxHeartbeats 4000000 in
theorem l_X3_doorsTake_16 {d : Nat}  (f1 : Int32) (f2 : Int32) (f3 : Int32) (f4 : Int32) {K : Int32 → kT → Prop} {post : Int32 → kT → Prop} (hK : ∀ (x5 : Int32) (τ : kT), K x5 τ → U yX3_doorsTake cX3_doorsTake 8 (some .boolean) (d + 1) kE0 106 [some (.ref 45), some (.int f1), some (.int f2), some (.int f3), some (.int f4), some (.int x5), none, none] [] τ (k_pi post)) : ∀ (n : Nat) (x5 : Int32) (τ : kT), L_X3_doorsTake_16  f1 f2 f3 f4 K post n x5 τ → U yX3_doorsTake cX3_doorsTake 8 (some .boolean) (d + 1) kE0 16 [some (.ref 45), some (.int f1), some (.int f2), some (.int f3), some (.int f4), some (.int x5), none, none] [] τ (k_pi post) := by
  intro n
  induction n with
  | zero => intro x5 τ h; exact h.elim
  | succ n ih =>
    intro x5 τ h
    unfold L_X3_doorsTake_16 at h
    refine v_iload dX3_doorsTake_16 rfl ?_
    refine v_aload_n dX3_doorsTake_18 rfl rfl ?_
    refine u_geti fX3_42 dX3_doorsTake_19 sh_45 rfl (by decide) ?_
    refine v_icmp_ge (tgt := 106) dX3_doorsTake_22 (by decide) (fun c4 => ?_) (fun c4 => ?_)
    · have h := h.1 c4
      exact hK x5 _ h
    · have h := h.2 c4
      refine v_iload dX3_doorsTake_25 rfl ?_
      refine v_iconst (v := 5) dX3_doorsTake_27 (by decide) ?_
      refine v_imul dX3_doorsTake_28 ?_
      refine v_iload_n dX3_doorsTake_29 rfl rfl ?_
      refine v_iadd dX3_doorsTake_30 ?_
      refine v_topi (fun v5 e_v5 => ?_)
      have h := h v5 e_v5
      refine v_istore dX3_doorsTake_31 (by decide) rfl ?_
      refine v_ls (ls2 := [some (.ref 45), some (.int f1), some (.int f2), some (.int f3), some (.int f4), some (.int x5), some (.int v5), none]) rfl ?_
      refine v_iload_n dX3_doorsTake_33 rfl rfl ?_
      refine v_if_ne (tgt := 41) dX3_doorsTake_34 (by decide) (fun c6 => ?_) (fun c6 => ?_)
      · have h := h.1 c6
        refine v_aload_n dX3_doorsTake_41 rfl rfl ?_
        refine u_getr fX3_36 dX3_doorsTake_42 sh_45 rfl (by decide) (rf_45_15 _) ?_
        refine v_iload_n dX3_doorsTake_45 rfl rfl ?_
        refine v_iconst (v := 1) dX3_doorsTake_46 (by decide) ?_
        refine v_isub dX3_doorsTake_47 ?_
        obtain ⟨j7, e_j7, l_j7, h⟩ := h
        refine u_aald dX3_doorsTake_48 (by decide) e_j7 l_j7 ?_
        refine v_iload dX3_doorsTake_49 rfl ?_
        obtain ⟨j8, e_j8, l_j8, h⟩ := h
        refine u_iald dX3_doorsTake_51 (k_53_sh (by assumption)) (show _ < 80 by omega) (by decide) e_j8 l_j8 ?_
        refine v_topi (fun v9 e_v9 => ?_)
        have h := h v9 e_v9
        refine v_istore dX3_doorsTake_52 (by decide) rfl ?_
        refine v_ls (ls2 := [some (.ref 45), some (.int f1), some (.int f2), some (.int f3), some (.int f4), some (.int x5), some (.int v5), some (.int v9)]) rfl ?_
        refine v_iload dX3_doorsTake_54 rfl ?_
        refine v_iconst (v := 1) dX3_doorsTake_56 (by decide) ?_
        refine v_iload dX3_doorsTake_57 rfl ?_
        refine v_ishl dX3_doorsTake_59 ?_
        refine v_iand dX3_doorsTake_60 ?_
        refine v_if_eq (tgt := 89) dX3_doorsTake_61 (by decide) (fun c10 => ?_) (fun c10 => ?_)
        · have h := h.1 c10
          refine v_aload_n dX3_doorsTake_89 rfl rfl ?_
          refine u_getr fX3_36 dX3_doorsTake_90 sh_45 rfl (by decide) (rf_45_15 _) ?_
          refine v_iload_n dX3_doorsTake_93 rfl rfl ?_
          obtain ⟨j11, e_j11, l_j11, h⟩ := h
          refine u_aald dX3_doorsTake_94 (by decide) e_j11 l_j11 ?_
          refine v_iload dX3_doorsTake_95 rfl ?_
          refine v_iload dX3_doorsTake_97 rfl ?_
          obtain ⟨j12, e_j12, l_j12, h⟩ := h
          refine u_iast dX3_doorsTake_99 (k_53_sh (by assumption)) (show _ < 80 by omega) (by decide) e_j12 l_j12 (fun τ13 e_τ13 => ?_)
          have h := h τ13 e_τ13
          obtain ⟨v14, e_v14⟩ : ∃ z : Int32, z = x5 + (1 : Int32) := ⟨_, rfl⟩
          have h := h v14 e_v14
          refine v_iinc (v := v14) dX3_doorsTake_100 rfl (by rw [e_v14]; rfl) (by decide) rfl ?_
          refine v_ls (ls2 := [some (.ref 45), some (.int f1), some (.int f2), some (.int f3), some (.int f4), some (.int v14), some (.int v5), some (.int v9)]) rfl ?_
          refine v_goto (tgt := 16) dX3_doorsTake_103 (by decide) ?_
          refine v_none 6 ?_
          refine v_ls (ls2 := [some (.ref 45), some (.int f1), some (.int f2), some (.int f3), some (.int f4), some (.int v14), none, some (.int v9)]) rfl ?_
          refine v_none 7 ?_
          refine v_ls (ls2 := [some (.ref 45), some (.int f1), some (.int f2), some (.int f3), some (.int f4), some (.int v14), none, none]) rfl ?_
          exact ih v14 _ h
        · have h := h.2 c10
          refine v_iload dX3_doorsTake_64 rfl ?_
          refine v_iconst (v := 1) dX3_doorsTake_66 (by decide) ?_
          refine v_iload_n dX3_doorsTake_67 rfl rfl ?_
          refine v_ishl dX3_doorsTake_68 ?_
          refine v_ior dX3_doorsTake_69 ?_
          refine v_topi (fun v15 e_v15 => ?_)
          have h := h v15 e_v15
          refine v_istore dX3_doorsTake_70 (by decide) rfl ?_
          refine v_ls (ls2 := [some (.ref 45), some (.int f1), some (.int f2), some (.int f3), some (.int f4), some (.int x5), some (.int v5), some (.int v15)]) rfl ?_
          refine v_iload dX3_doorsTake_72 rfl ?_
          refine u_callS [.int v15] mJ6_bitCount_0f7a4 sJ6_bitCount_0f7a4 lX3_122 dX3_doorsTake_74 ⟨rfl, rfl, id⟩ rfl rfl (Nat.le_of_ble_eq_true rfl) (Nat.le_of_ble_eq_true rfl) (v_J6_bitCount_0f7a4 v15 _ _ h) ?_
          rintro _ τ17 ⟨r16, rfl, h⟩
          refine v_aload_n dX3_doorsTake_77 rfl rfl ?_
          refine u_getr fX3_25 dX3_doorsTake_78 sh_45 rfl (by decide) (rf_45_12 _) ?_
          refine v_iload dX3_doorsTake_81 rfl ?_
          obtain ⟨j18, e_j18, l_j18, h⟩ := h
          refine u_iald dX3_doorsTake_83 sh_49 (by decide) (by decide) e_j18 l_j18 ?_
          refine v_icmp_le (tgt := 89) dX3_doorsTake_84 (by decide) (fun c19 => ?_) (fun c19 => ?_)
          · have h := h.1 c19
            refine v_aload_n dX3_doorsTake_89 rfl rfl ?_
            refine u_getr fX3_36 dX3_doorsTake_90 sh_45 rfl (by decide) (rf_45_15 _) ?_
            refine v_iload_n dX3_doorsTake_93 rfl rfl ?_
            obtain ⟨j20, e_j20, l_j20, h⟩ := h
            refine u_aald dX3_doorsTake_94 (by decide) e_j20 l_j20 ?_
            refine v_iload dX3_doorsTake_95 rfl ?_
            refine v_iload dX3_doorsTake_97 rfl ?_
            obtain ⟨j21, e_j21, l_j21, h⟩ := h
            refine u_iast dX3_doorsTake_99 (k_53_sh (by assumption)) (show _ < 80 by omega) (by decide) e_j21 l_j21 (fun τ22 e_τ22 => ?_)
            have h := h τ22 e_τ22
            obtain ⟨v23, e_v23⟩ : ∃ z : Int32, z = x5 + (1 : Int32) := ⟨_, rfl⟩
            have h := h v23 e_v23
            refine v_iinc (v := v23) dX3_doorsTake_100 rfl (by rw [e_v23]; rfl) (by decide) rfl ?_
            refine v_ls (ls2 := [some (.ref 45), some (.int f1), some (.int f2), some (.int f3), some (.int f4), some (.int v23), some (.int v5), some (.int v15)]) rfl ?_
            refine v_goto (tgt := 16) dX3_doorsTake_103 (by decide) ?_
            refine v_none 6 ?_
            refine v_ls (ls2 := [some (.ref 45), some (.int f1), some (.int f2), some (.int f3), some (.int f4), some (.int v23), none, some (.int v15)]) rfl ?_
            refine v_none 7 ?_
            refine v_ls (ls2 := [some (.ref 45), some (.int f1), some (.int f2), some (.int f3), some (.int f4), some (.int v23), none, none]) rfl ?_
            exact ih v23 _ h
          · have h := h.2 c19
            refine v_iconst (v := 0) dX3_doorsTake_87 (by decide) ?_
            exact u_zret dX3_doorsTake_88 rfl ⟨rfl, id⟩ h
      · have h := h.2 c6
        refine v_iconst (v := 0) dX3_doorsTake_37 (by decide) ?_
        refine v_goto (tgt := 52) dX3_doorsTake_38 (by decide) ?_
        refine v_istore dX3_doorsTake_52 (by decide) rfl ?_
        refine v_ls (ls2 := [some (.ref 45), some (.int f1), some (.int f2), some (.int f3), some (.int f4), some (.int x5), some (.int v5), some (.int (0 : Int32))]) rfl ?_
        refine v_iload dX3_doorsTake_54 rfl ?_
        refine v_iconst (v := 1) dX3_doorsTake_56 (by decide) ?_
        refine v_iload dX3_doorsTake_57 rfl ?_
        refine v_ishl dX3_doorsTake_59 ?_
        refine v_iand dX3_doorsTake_60 ?_
        refine v_if_eq (tgt := 89) dX3_doorsTake_61 (by decide) (fun c24 => ?_) (fun c24 => ?_)
        · have h := h.1 c24
          refine v_aload_n dX3_doorsTake_89 rfl rfl ?_
          refine u_getr fX3_36 dX3_doorsTake_90 sh_45 rfl (by decide) (rf_45_15 _) ?_
          refine v_iload_n dX3_doorsTake_93 rfl rfl ?_
          obtain ⟨j25, e_j25, l_j25, h⟩ := h
          refine u_aald dX3_doorsTake_94 (by decide) e_j25 l_j25 ?_
          refine v_iload dX3_doorsTake_95 rfl ?_
          refine v_iload dX3_doorsTake_97 rfl ?_
          obtain ⟨j26, e_j26, l_j26, h⟩ := h
          refine u_iast dX3_doorsTake_99 (k_53_sh (by assumption)) (show _ < 80 by omega) (by decide) e_j26 l_j26 (fun τ27 e_τ27 => ?_)
          have h := h τ27 e_τ27
          obtain ⟨v28, e_v28⟩ : ∃ z : Int32, z = x5 + (1 : Int32) := ⟨_, rfl⟩
          have h := h v28 e_v28
          refine v_iinc (v := v28) dX3_doorsTake_100 rfl (by rw [e_v28]; rfl) (by decide) rfl ?_
          refine v_ls (ls2 := [some (.ref 45), some (.int f1), some (.int f2), some (.int f3), some (.int f4), some (.int v28), some (.int v5), some (.int (0 : Int32))]) rfl ?_
          refine v_goto (tgt := 16) dX3_doorsTake_103 (by decide) ?_
          refine v_none 6 ?_
          refine v_ls (ls2 := [some (.ref 45), some (.int f1), some (.int f2), some (.int f3), some (.int f4), some (.int v28), none, some (.int (0 : Int32))]) rfl ?_
          refine v_none 7 ?_
          refine v_ls (ls2 := [some (.ref 45), some (.int f1), some (.int f2), some (.int f3), some (.int f4), some (.int v28), none, none]) rfl ?_
          exact ih v28 _ h
        · have h := h.2 c24
          refine v_iload dX3_doorsTake_64 rfl ?_
          refine v_iconst (v := 1) dX3_doorsTake_66 (by decide) ?_
          refine v_iload_n dX3_doorsTake_67 rfl rfl ?_
          refine v_ishl dX3_doorsTake_68 ?_
          refine v_ior dX3_doorsTake_69 ?_
          refine v_topi (fun v29 e_v29 => ?_)
          have h := h v29 e_v29
          refine v_istore dX3_doorsTake_70 (by decide) rfl ?_
          refine v_ls (ls2 := [some (.ref 45), some (.int f1), some (.int f2), some (.int f3), some (.int f4), some (.int x5), some (.int v5), some (.int v29)]) rfl ?_
          refine v_iload dX3_doorsTake_72 rfl ?_
          refine u_callS [.int v29] mJ6_bitCount_0f7a4 sJ6_bitCount_0f7a4 lX3_122 dX3_doorsTake_74 ⟨rfl, rfl, id⟩ rfl rfl (Nat.le_of_ble_eq_true rfl) (Nat.le_of_ble_eq_true rfl) (v_J6_bitCount_0f7a4 v29 _ _ h) ?_
          rintro _ τ31 ⟨r30, rfl, h⟩
          refine v_aload_n dX3_doorsTake_77 rfl rfl ?_
          refine u_getr fX3_25 dX3_doorsTake_78 sh_45 rfl (by decide) (rf_45_12 _) ?_
          refine v_iload dX3_doorsTake_81 rfl ?_
          obtain ⟨j32, e_j32, l_j32, h⟩ := h
          refine u_iald dX3_doorsTake_83 sh_49 (by decide) (by decide) e_j32 l_j32 ?_
          refine v_icmp_le (tgt := 89) dX3_doorsTake_84 (by decide) (fun c33 => ?_) (fun c33 => ?_)
          · have h := h.1 c33
            refine v_aload_n dX3_doorsTake_89 rfl rfl ?_
            refine u_getr fX3_36 dX3_doorsTake_90 sh_45 rfl (by decide) (rf_45_15 _) ?_
            refine v_iload_n dX3_doorsTake_93 rfl rfl ?_
            obtain ⟨j34, e_j34, l_j34, h⟩ := h
            refine u_aald dX3_doorsTake_94 (by decide) e_j34 l_j34 ?_
            refine v_iload dX3_doorsTake_95 rfl ?_
            refine v_iload dX3_doorsTake_97 rfl ?_
            obtain ⟨j35, e_j35, l_j35, h⟩ := h
            refine u_iast dX3_doorsTake_99 (k_53_sh (by assumption)) (show _ < 80 by omega) (by decide) e_j35 l_j35 (fun τ36 e_τ36 => ?_)
            have h := h τ36 e_τ36
            obtain ⟨v37, e_v37⟩ : ∃ z : Int32, z = x5 + (1 : Int32) := ⟨_, rfl⟩
            have h := h v37 e_v37
            refine v_iinc (v := v37) dX3_doorsTake_100 rfl (by rw [e_v37]; rfl) (by decide) rfl ?_
            refine v_ls (ls2 := [some (.ref 45), some (.int f1), some (.int f2), some (.int f3), some (.int f4), some (.int v37), some (.int v5), some (.int v29)]) rfl ?_
            refine v_goto (tgt := 16) dX3_doorsTake_103 (by decide) ?_
            refine v_none 6 ?_
            refine v_ls (ls2 := [some (.ref 45), some (.int f1), some (.int f2), some (.int f3), some (.int f4), some (.int v37), none, some (.int v29)]) rfl ?_
            refine v_none 7 ?_
            refine v_ls (ls2 := [some (.ref 45), some (.int f1), some (.int f2), some (.int f3), some (.int f4), some (.int v37), none, none]) rfl ?_
            exact ih v37 _ h
          · have h := h.2 c33
            refine v_iconst (v := 0) dX3_doorsTake_87 (by decide) ?_
            exact u_zret dX3_doorsTake_88 rfl ⟨rfl, id⟩ h
set_option maxRecDepth 100000 in
set_option maxHeartbeats 4000000 in
theorem v_X3_doorsTake {d : Nat}  (a1 : Int32) (a2 : Int32) (a3 : Int32) (τ : kT) (post : Int32 → kT → Prop) (h : T_X3_doorsTake  a1 a2 a3 τ post) : U yX3_doorsTake cX3_doorsTake 8 (some .boolean) (d + 1) kE0 0 [some (.ref 45), some (.int a1), some (.int a2), some (.int a3), none, none, none, none] [] τ (k_pi post) := by
  unfold T_X3_doorsTake at h
  refine v_aload_n dX3_doorsTake_0 rfl rfl ?_
  refine u_getr fX3_19 dX3_doorsTake_1 sh_45 rfl (by decide) (rf_45_8 _) ?_
  refine v_aload_n dX3_doorsTake_4 rfl rfl ?_
  refine u_getr fX3_15 dX3_doorsTake_5 sh_45 rfl (by decide) (rf_45_5 _) ?_
  refine v_iload_n dX3_doorsTake_8 rfl rfl ?_
  obtain ⟨j1, e_j1, l_j1, h⟩ := h
  refine u_iald dX3_doorsTake_9 sh_46 (by decide) (by decide) e_j1 l_j1 ?_
  obtain ⟨j2, e_j2, l_j2, h⟩ := h
  refine u_iald dX3_doorsTake_10 sh_47 (by decide) (by decide) e_j2 l_j2 ?_
  refine v_topi (fun v3 e_v3 => ?_)
  have h := h v3 e_v3
  refine v_istore dX3_doorsTake_11 (by decide) rfl ?_
  refine v_ls (ls2 := [some (.ref 45), some (.int a1), some (.int a2), some (.int a3), some (.int v3), none, none, none]) rfl ?_
  refine v_iconst (v := 0) dX3_doorsTake_13 (by decide) ?_
  refine v_istore dX3_doorsTake_14 (by decide) rfl ?_
  refine v_ls (ls2 := [some (.ref 45), some (.int a1), some (.int a2), some (.int a3), some (.int v3), some (.int (0 : Int32)), none, none]) rfl ?_
  obtain ⟨m38, h⟩ := h
  refine l_X3_doorsTake_16  a1 a2 a3 v3 (fun v39 τ40 h => ?_) m38 (0 : Int32) _ h
  refine v_iconst (v := 1) dX3_doorsTake_106 (by decide) ?_
  exact u_zret dX3_doorsTake_107 rfl ⟨rfl, id⟩ h
def L_X3_haveSameCuts_2  (f1 : Int32) (f2 : Int32) (K : Int32 → kT → Prop) (post : Int32 → kT → Prop) : Nat → Int32 → kT → Prop
  | 0, _, _ => False
  | n + 1, x3, τ => (((q_i τ 45 3) ≤ x3 → K x3 τ) ∧ (¬ (q_i τ 45 3) ≤ x3 → (∃ j2 : Nat, ((f1 * (5 : Int32)) + x3) = nI j2 ∧ j2 < 30 ∧ (∃ j3 : Nat, ((f2 * (5 : Int32)) + x3) = nI j3 ∧ j3 < 30 ∧ (((q_i τ 51 j2) = (q_i τ 51 j3) → (∀ v5 : Int32, v5 = x3 + (1 : Int32) → L_X3_haveSameCuts_2 f1 f2 K post n v5 τ)) ∧ (¬ (q_i τ 51 j2) = (q_i τ 51 j3) → post (0 : Int32) τ))))))
def T_X3_haveSameCuts (a1 : Int32) (a2 : Int32) (τ : kT) (post : Int32 → kT → Prop) : Prop := (∃ m6 : Nat, L_X3_haveSameCuts_2  a1 a2 (fun v7 τ8 => post (1 : Int32) τ8) post m6 (0 : Int32) τ)
set_option maxRecDepth 100000 in
set_option maxHeartbeats 4000000 in
theorem l_X3_haveSameCuts_2 {d : Nat}  (f1 : Int32) (f2 : Int32) {K : Int32 → kT → Prop} {post : Int32 → kT → Prop} (hK : ∀ (x3 : Int32) (τ : kT), K x3 τ → U yX3_haveSameCuts cX3_haveSameCuts 4 (some .boolean) (d + 0) kE0 41 [some (.ref 45), some (.int f1), some (.int f2), some (.int x3)] [] τ (k_pi post)) : ∀ (n : Nat) (x3 : Int32) (τ : kT), L_X3_haveSameCuts_2  f1 f2 K post n x3 τ → U yX3_haveSameCuts cX3_haveSameCuts 4 (some .boolean) (d + 0) kE0 2 [some (.ref 45), some (.int f1), some (.int f2), some (.int x3)] [] τ (k_pi post) := by
  intro n
  induction n with
  | zero => intro x3 τ h; exact h.elim
  | succ n ih =>
    intro x3 τ h
    unfold L_X3_haveSameCuts_2 at h
    refine v_iload_n dX3_haveSameCuts_2 rfl rfl ?_
    refine v_aload_n dX3_haveSameCuts_3 rfl rfl ?_
    refine u_geti fX3_45 dX3_haveSameCuts_4 sh_45 rfl (by decide) ?_
    refine v_icmp_ge (tgt := 41) dX3_haveSameCuts_7 (by decide) (fun c1 => ?_) (fun c1 => ?_)
    · have h := h.1 c1
      exact hK x3 _ h
    · have h := h.2 c1
      refine v_aload_n dX3_haveSameCuts_10 rfl rfl ?_
      refine u_getr fX3_31 dX3_haveSameCuts_11 sh_45 rfl (by decide) (rf_45_14 _) ?_
      refine v_iload_n dX3_haveSameCuts_14 rfl rfl ?_
      refine v_iconst (v := 5) dX3_haveSameCuts_15 (by decide) ?_
      refine v_imul dX3_haveSameCuts_16 ?_
      refine v_iload_n dX3_haveSameCuts_17 rfl rfl ?_
      refine v_iadd dX3_haveSameCuts_18 ?_
      obtain ⟨j2, e_j2, l_j2, h⟩ := h
      refine u_iald dX3_haveSameCuts_19 sh_51 (by decide) (by decide) e_j2 l_j2 ?_
      refine v_aload_n dX3_haveSameCuts_20 rfl rfl ?_
      refine u_getr fX3_31 dX3_haveSameCuts_21 sh_45 rfl (by decide) (rf_45_14 _) ?_
      refine v_iload_n dX3_haveSameCuts_24 rfl rfl ?_
      refine v_iconst (v := 5) dX3_haveSameCuts_25 (by decide) ?_
      refine v_imul dX3_haveSameCuts_26 ?_
      refine v_iload_n dX3_haveSameCuts_27 rfl rfl ?_
      refine v_iadd dX3_haveSameCuts_28 ?_
      obtain ⟨j3, e_j3, l_j3, h⟩ := h
      refine u_iald dX3_haveSameCuts_29 sh_51 (by decide) (by decide) e_j3 l_j3 ?_
      refine v_icmp_eq (tgt := 35) dX3_haveSameCuts_30 (by decide) (fun c4 => ?_) (fun c4 => ?_)
      · have h := h.1 c4
        obtain ⟨v5, e_v5⟩ : ∃ z : Int32, z = x3 + (1 : Int32) := ⟨_, rfl⟩
        have h := h v5 e_v5
        refine v_iinc (v := v5) dX3_haveSameCuts_35 rfl (by rw [e_v5]; rfl) (by decide) rfl ?_
        refine v_ls (ls2 := [some (.ref 45), some (.int f1), some (.int f2), some (.int v5)]) rfl ?_
        refine v_goto (tgt := 2) dX3_haveSameCuts_38 (by decide) ?_
        exact ih v5 _ h
      · have h := h.2 c4
        refine v_iconst (v := 0) dX3_haveSameCuts_33 (by decide) ?_
        exact u_zret dX3_haveSameCuts_34 rfl ⟨rfl, id⟩ h
set_option maxRecDepth 100000 in
set_option maxHeartbeats 4000000 in
theorem v_X3_haveSameCuts {d : Nat}  (a1 : Int32) (a2 : Int32) (τ : kT) (post : Int32 → kT → Prop) (h : T_X3_haveSameCuts  a1 a2 τ post) : U yX3_haveSameCuts cX3_haveSameCuts 4 (some .boolean) (d + 0) kE0 0 [some (.ref 45), some (.int a1), some (.int a2), none] [] τ (k_pi post) := by
  unfold T_X3_haveSameCuts at h
  refine v_iconst (v := 0) dX3_haveSameCuts_0 (by decide) ?_
  refine v_istore_n dX3_haveSameCuts_1 rfl (by decide) rfl ?_
  refine v_ls (ls2 := [some (.ref 45), some (.int a1), some (.int a2), some (.int (0 : Int32))]) rfl ?_
  obtain ⟨m6, h⟩ := h
  refine l_X3_haveSameCuts_2  a1 a2 (fun v7 τ8 h => ?_) m6 (0 : Int32) _ h
  refine v_iconst (v := 1) dX3_haveSameCuts_41 (by decide) ?_
  exact u_zret dX3_haveSameCuts_42 rfl ⟨rfl, id⟩ h
def L_X3_isCutAlready_9  (f1 : Int32) (f2 : Int32) (K : Int32 → kT → Prop) (post : Int32 → kT → Prop) : Nat → Int32 → kT → Prop
  | 0, _, _ => False
  | n + 1, x3, τ => ((f1 ≤ x3 → K x3 τ) ∧ (¬ f1 ≤ x3 → (∃ j4 : Nat, x3 = nI j4 ∧ j4 < 6 ∧ (T_X3_haveSameCuts (q_i τ 46 j4) f2 τ (fun r5 τ6 => ((r5 = 0 → (∀ v8 : Int32, v8 = x3 + (1 : Int32) → L_X3_isCutAlready_9 f1 f2 K post n v8 τ6)) ∧ (¬ r5 = 0 → post (1 : Int32) τ6)))))))
def T_X3_isCutAlready (a1 : Int32) (τ : kT) (post : Int32 → kT → Prop) : Prop := (∃ j1 : Nat, a1 = nI j1 ∧ j1 < 6 ∧ (∀ v2 : Int32, v2 = (q_i τ 46 j1) → (∃ m9 : Nat, L_X3_isCutAlready_9  a1 v2 (fun v10 τ11 => (((q_i τ11 45 7) = (-1 : Int32) → post (0 : Int32) τ11) ∧ (¬ (q_i τ11 45 7) = (-1 : Int32) → (T_X3_haveSameCuts (q_i τ11 45 7) v2 τ11 (fun r13 τ14 => ((r13 = 0 → post (0 : Int32) τ14) ∧ (¬ r13 = 0 → post (1 : Int32) τ14))))))) post m9 (0 : Int32) τ)))
set_option maxRecDepth 100000 in
set_option maxHeartbeats 4000000 in
theorem l_X3_isCutAlready_9 {d : Nat}  (f1 : Int32) (f2 : Int32) {K : Int32 → kT → Prop} {post : Int32 → kT → Prop} (hK : ∀ (x3 : Int32) (τ : kT), K x3 τ → U yX3_isCutAlready cX3_isCutAlready 4 (some .boolean) (d + 1) kE0 36 [some (.ref 45), some (.int f1), some (.int f2), some (.int x3)] [] τ (k_pi post)) : ∀ (n : Nat) (x3 : Int32) (τ : kT), L_X3_isCutAlready_9  f1 f2 K post n x3 τ → U yX3_isCutAlready cX3_isCutAlready 4 (some .boolean) (d + 1) kE0 9 [some (.ref 45), some (.int f1), some (.int f2), some (.int x3)] [] τ (k_pi post) := by
  intro n
  induction n with
  | zero => intro x3 τ h; exact h.elim
  | succ n ih =>
    intro x3 τ h
    unfold L_X3_isCutAlready_9 at h
    refine v_iload_n dX3_isCutAlready_9 rfl rfl ?_
    refine v_iload_n dX3_isCutAlready_10 rfl rfl ?_
    refine v_icmp_ge (tgt := 36) dX3_isCutAlready_11 (by decide) (fun c3 => ?_) (fun c3 => ?_)
    · have h := h.1 c3
      exact hK x3 _ h
    · have h := h.2 c3
      refine v_aload_n dX3_isCutAlready_14 rfl rfl ?_
      refine v_aload_n dX3_isCutAlready_15 rfl rfl ?_
      refine u_getr fX3_15 dX3_isCutAlready_16 sh_45 rfl (by decide) (rf_45_5 _) ?_
      refine v_iload_n dX3_isCutAlready_19 rfl rfl ?_
      obtain ⟨j4, e_j4, l_j4, h⟩ := h
      refine u_iald dX3_isCutAlready_20 sh_46 (by decide) (by decide) e_j4 l_j4 ?_
      refine v_iload_n dX3_isCutAlready_21 rfl rfl ?_
      refine u_callV [.int (q_i τ 46 j4), .int f2] mX3_haveSameCuts iX3_haveSameCuts lX3_127 dX3_isCutAlready_22 sh_45 rfl rfl (by decide) ⟨rfl, rfl, id⟩ rfl rfl (Nat.le_of_ble_eq_true rfl) (Nat.le_of_ble_eq_true rfl) (v_X3_haveSameCuts (q_i τ 46 j4) f2 _ _ h) ?_
      rintro _ τ6 ⟨r5, rfl, h⟩
      refine v_if_eq (tgt := 30) dX3_isCutAlready_25 (by decide) (fun c7 => ?_) (fun c7 => ?_)
      · have h := h.1 c7
        obtain ⟨v8, e_v8⟩ : ∃ z : Int32, z = x3 + (1 : Int32) := ⟨_, rfl⟩
        have h := h v8 e_v8
        refine v_iinc (v := v8) dX3_isCutAlready_30 rfl (by rw [e_v8]; rfl) (by decide) rfl ?_
        refine v_ls (ls2 := [some (.ref 45), some (.int f1), some (.int f2), some (.int v8)]) rfl ?_
        refine v_goto (tgt := 9) dX3_isCutAlready_33 (by decide) ?_
        exact ih v8 _ h
      · have h := h.2 c7
        refine v_iconst (v := 1) dX3_isCutAlready_28 (by decide) ?_
        exact u_zret dX3_isCutAlready_29 rfl ⟨rfl, id⟩ h
set_option maxRecDepth 100000 in
set_option maxHeartbeats 4000000 in
theorem v_X3_isCutAlready {d : Nat}  (a1 : Int32) (τ : kT) (post : Int32 → kT → Prop) (h : T_X3_isCutAlready  a1 τ post) : U yX3_isCutAlready cX3_isCutAlready 4 (some .boolean) (d + 1) kE0 0 [some (.ref 45), some (.int a1), none, none] [] τ (k_pi post) := by
  unfold T_X3_isCutAlready at h
  refine v_aload_n dX3_isCutAlready_0 rfl rfl ?_
  refine u_getr fX3_15 dX3_isCutAlready_1 sh_45 rfl (by decide) (rf_45_5 _) ?_
  refine v_iload_n dX3_isCutAlready_4 rfl rfl ?_
  obtain ⟨j1, e_j1, l_j1, h⟩ := h
  refine u_iald dX3_isCutAlready_5 sh_46 (by decide) (by decide) e_j1 l_j1 ?_
  refine v_topi (fun v2 e_v2 => ?_)
  have h := h v2 e_v2
  refine v_istore_n dX3_isCutAlready_6 rfl (by decide) rfl ?_
  refine v_ls (ls2 := [some (.ref 45), some (.int a1), some (.int v2), none]) rfl ?_
  refine v_iconst (v := 0) dX3_isCutAlready_7 (by decide) ?_
  refine v_istore_n dX3_isCutAlready_8 rfl (by decide) rfl ?_
  refine v_ls (ls2 := [some (.ref 45), some (.int a1), some (.int v2), some (.int (0 : Int32))]) rfl ?_
  obtain ⟨m9, h⟩ := h
  refine l_X3_isCutAlready_9  a1 v2 (fun v10 τ11 h => ?_) m9 (0 : Int32) _ h
  refine v_aload_n dX3_isCutAlready_36 rfl rfl ?_
  refine u_geti fX3_76 dX3_isCutAlready_37 sh_45 rfl (by decide) ?_
  refine v_iconst (v := -1) dX3_isCutAlready_40 (by decide) ?_
  refine v_icmp_eq (tgt := 60) dX3_isCutAlready_41 (by decide) (fun c12 => ?_) (fun c12 => ?_)
  · have h := h.1 c12
    refine v_iconst (v := 0) dX3_isCutAlready_60 (by decide) ?_
    exact u_zret dX3_isCutAlready_61 rfl ⟨rfl, id⟩ h
  · have h := h.2 c12
    refine v_aload_n dX3_isCutAlready_44 rfl rfl ?_
    refine v_aload_n dX3_isCutAlready_45 rfl rfl ?_
    refine u_geti fX3_76 dX3_isCutAlready_46 sh_45 rfl (by decide) ?_
    refine v_iload_n dX3_isCutAlready_49 rfl rfl ?_
    refine u_callV [.int (q_i τ11 45 7), .int v2] mX3_haveSameCuts iX3_haveSameCuts lX3_127 dX3_isCutAlready_50 sh_45 rfl rfl (by decide) ⟨rfl, rfl, id⟩ rfl rfl (Nat.le_of_ble_eq_true rfl) (Nat.le_of_ble_eq_true rfl) (v_X3_haveSameCuts (q_i τ11 45 7) v2 _ _ h) ?_
    rintro _ τ14 ⟨r13, rfl, h⟩
    refine v_if_eq (tgt := 60) dX3_isCutAlready_53 (by decide) (fun c15 => ?_) (fun c15 => ?_)
    · have h := h.1 c15
      refine v_iconst (v := 0) dX3_isCutAlready_60 (by decide) ?_
      exact u_zret dX3_isCutAlready_61 rfl ⟨rfl, id⟩ h
    · have h := h.2 c15
      refine v_iconst (v := 1) dX3_isCutAlready_56 (by decide) ?_
      refine v_goto (tgt := 61) dX3_isCutAlready_57 (by decide) ?_
      exact u_zret dX3_isCutAlready_61 rfl ⟨rfl, id⟩ h
def T_X3_stands (a1 : Int32) (a2 : Int32) (a3 : Int32) (τ : kT) (post : Int32 → kT → Prop) : Prop := (∃ j1 : Nat, a1 = nI j1 ∧ j1 < 6 ∧ (∀ v2 : Int32, v2 = (((q_i τ 46 j1) * (5 : Int32)) + a2) → (∃ j3 : Nat, v2 = nI j3 ∧ j3 < 30 ∧ (∀ τ4 : kT, τ4 = q_si τ 51 j3 a3 → ((a2 ≤ 0 → (T_X3_doorsTake a1 a2 a3 τ4 (fun r6 τ7 => ((¬ r6 = 0 → (((a2 + (1 : Int32)) < (q_i τ7 45 3) → post (1 : Int32) τ7) ∧ (¬ (a2 + (1 : Int32)) < (q_i τ7 45 3) → (T_X3_isCutAlready a1 τ7 (fun r10 τ11 => ((¬ r10 = 0 → post (0 : Int32) τ11) ∧ (r10 = 0 → post (1 : Int32) τ11))))))) ∧ (r6 = 0 → post (0 : Int32) τ7))))) ∧ (¬ a2 ≤ 0 → (∃ j13 : Nat, (v2 - (1 : Int32)) = nI j13 ∧ j13 < 30 ∧ (((q_abs (a3 - (q_i τ4 51 j13))) ≤ (q_i τ4 45 4) → (T_X3_doorsTake a1 a2 a3 τ4 (fun r15 τ16 => ((¬ r15 = 0 → (((a2 + (1 : Int32)) < (q_i τ16 45 3) → post (1 : Int32) τ16) ∧ (¬ (a2 + (1 : Int32)) < (q_i τ16 45 3) → (T_X3_isCutAlready a1 τ16 (fun r19 τ20 => ((¬ r19 = 0 → post (0 : Int32) τ20) ∧ (r19 = 0 → post (1 : Int32) τ20))))))) ∧ (r15 = 0 → post (0 : Int32) τ16))))) ∧ (¬ (q_abs (a3 - (q_i τ4 51 j13))) ≤ (q_i τ4 45 4) → post (0 : Int32) τ4)))))))))
set_option maxRecDepth 100000 in
set_option maxHeartbeats 4000000 in
theorem v_X3_stands {d : Nat}  (a1 : Int32) (a2 : Int32) (a3 : Int32) (τ : kT) (post : Int32 → kT → Prop) (h : T_X3_stands  a1 a2 a3 τ post) : U yX3_stands cX3_stands 5 (some .boolean) (d + 2) kE0 0 [some (.ref 45), some (.int a1), some (.int a2), some (.int a3), none] [] τ (k_pi post) := by
  unfold T_X3_stands at h
  refine v_aload_n dX3_stands_0 rfl rfl ?_
  refine u_getr fX3_15 dX3_stands_1 sh_45 rfl (by decide) (rf_45_5 _) ?_
  refine v_iload_n dX3_stands_4 rfl rfl ?_
  obtain ⟨j1, e_j1, l_j1, h⟩ := h
  refine u_iald dX3_stands_5 sh_46 (by decide) (by decide) e_j1 l_j1 ?_
  refine v_iconst (v := 5) dX3_stands_6 (by decide) ?_
  refine v_imul dX3_stands_7 ?_
  refine v_iload_n dX3_stands_8 rfl rfl ?_
  refine v_iadd dX3_stands_9 ?_
  refine v_topi (fun v2 e_v2 => ?_)
  have h := h v2 e_v2
  refine v_istore dX3_stands_10 (by decide) rfl ?_
  refine v_ls (ls2 := [some (.ref 45), some (.int a1), some (.int a2), some (.int a3), some (.int v2)]) rfl ?_
  refine v_aload_n dX3_stands_12 rfl rfl ?_
  refine u_getr fX3_31 dX3_stands_13 sh_45 rfl (by decide) (rf_45_14 _) ?_
  refine v_iload dX3_stands_16 rfl ?_
  refine v_iload_n dX3_stands_18 rfl rfl ?_
  obtain ⟨j3, e_j3, l_j3, h⟩ := h
  refine u_iast dX3_stands_19 sh_51 (by decide) (by decide) e_j3 l_j3 (fun τ4 e_τ4 => ?_)
  have h := h τ4 e_τ4
  refine v_iload_n dX3_stands_20 rfl rfl ?_
  refine v_if_le (tgt := 47) dX3_stands_21 (by decide) (fun c5 => ?_) (fun c5 => ?_)
  · have h := h.1 c5
    refine v_aload_n dX3_stands_47 rfl rfl ?_
    refine v_iload_n dX3_stands_48 rfl rfl ?_
    refine v_iload_n dX3_stands_49 rfl rfl ?_
    refine v_iload_n dX3_stands_50 rfl rfl ?_
    refine u_callV [.int a1, .int a2, .int a3] mX3_doorsTake iX3_doorsTake lX3_116 dX3_stands_51 sh_45 rfl rfl (by decide) ⟨rfl, rfl, id⟩ rfl rfl (Nat.le_of_ble_eq_true rfl) (Nat.le_of_ble_eq_true rfl) (v_X3_doorsTake a1 a2 a3 _ _ h) ?_
    rintro _ τ7 ⟨r6, rfl, h⟩
    refine v_if_ne (tgt := 59) dX3_stands_54 (by decide) (fun c8 => ?_) (fun c8 => ?_)
    · have h := h.1 c8
      refine v_iload_n dX3_stands_59 rfl rfl ?_
      refine v_iconst (v := 1) dX3_stands_60 (by decide) ?_
      refine v_iadd dX3_stands_61 ?_
      refine v_aload_n dX3_stands_62 rfl rfl ?_
      refine u_geti fX3_45 dX3_stands_63 sh_45 rfl (by decide) ?_
      refine v_icmp_lt (tgt := 77) dX3_stands_66 (by decide) (fun c9 => ?_) (fun c9 => ?_)
      · have h := h.1 c9
        refine v_iconst (v := 1) dX3_stands_77 (by decide) ?_
        refine v_goto (tgt := 82) dX3_stands_78 (by decide) ?_
        exact u_zret dX3_stands_82 rfl ⟨rfl, id⟩ h
      · have h := h.2 c9
        refine v_aload_n dX3_stands_69 rfl rfl ?_
        refine v_iload_n dX3_stands_70 rfl rfl ?_
        refine u_callV [.int a1] mX3_isCutAlready iX3_isCutAlready lX3_119 dX3_stands_71 sh_45 rfl rfl (by decide) ⟨rfl, rfl, id⟩ rfl rfl (Nat.le_of_ble_eq_true rfl) (Nat.le_of_ble_eq_true rfl) (v_X3_isCutAlready a1 _ _ h) ?_
        rintro _ τ11 ⟨r10, rfl, h⟩
        refine v_if_ne (tgt := 81) dX3_stands_74 (by decide) (fun c12 => ?_) (fun c12 => ?_)
        · have h := h.1 c12
          refine v_iconst (v := 0) dX3_stands_81 (by decide) ?_
          exact u_zret dX3_stands_82 rfl ⟨rfl, id⟩ h
        · have h := h.2 c12
          refine v_iconst (v := 1) dX3_stands_77 (by decide) ?_
          refine v_goto (tgt := 82) dX3_stands_78 (by decide) ?_
          exact u_zret dX3_stands_82 rfl ⟨rfl, id⟩ h
    · have h := h.2 c8
      refine v_iconst (v := 0) dX3_stands_57 (by decide) ?_
      exact u_zret dX3_stands_58 rfl ⟨rfl, id⟩ h
  · have h := h.2 c5
    refine v_iload_n dX3_stands_24 rfl rfl ?_
    refine v_aload_n dX3_stands_25 rfl rfl ?_
    refine u_getr fX3_31 dX3_stands_26 sh_45 rfl (by decide) (rf_45_14 _) ?_
    refine v_iload dX3_stands_29 rfl ?_
    refine v_iconst (v := 1) dX3_stands_31 (by decide) ?_
    refine v_isub dX3_stands_32 ?_
    obtain ⟨j13, e_j13, l_j13, h⟩ := h
    refine u_iald dX3_stands_33 sh_51 (by decide) (by decide) e_j13 l_j13 ?_
    refine v_isub dX3_stands_34 ?_
    refine v_abs aX3_111 ⟨rfl, rfl, id⟩ (Nat.le_of_ble_eq_true rfl) dX3_stands_35 ?_
    refine v_aload_n dX3_stands_38 rfl rfl ?_
    refine u_geti fX3_48 dX3_stands_39 sh_45 rfl (by decide) ?_
    refine v_icmp_le (tgt := 47) dX3_stands_42 (by decide) (fun c14 => ?_) (fun c14 => ?_)
    · have h := h.1 c14
      refine v_aload_n dX3_stands_47 rfl rfl ?_
      refine v_iload_n dX3_stands_48 rfl rfl ?_
      refine v_iload_n dX3_stands_49 rfl rfl ?_
      refine v_iload_n dX3_stands_50 rfl rfl ?_
      refine u_callV [.int a1, .int a2, .int a3] mX3_doorsTake iX3_doorsTake lX3_116 dX3_stands_51 sh_45 rfl rfl (by decide) ⟨rfl, rfl, id⟩ rfl rfl (Nat.le_of_ble_eq_true rfl) (Nat.le_of_ble_eq_true rfl) (v_X3_doorsTake a1 a2 a3 _ _ h) ?_
      rintro _ τ16 ⟨r15, rfl, h⟩
      refine v_if_ne (tgt := 59) dX3_stands_54 (by decide) (fun c17 => ?_) (fun c17 => ?_)
      · have h := h.1 c17
        refine v_iload_n dX3_stands_59 rfl rfl ?_
        refine v_iconst (v := 1) dX3_stands_60 (by decide) ?_
        refine v_iadd dX3_stands_61 ?_
        refine v_aload_n dX3_stands_62 rfl rfl ?_
        refine u_geti fX3_45 dX3_stands_63 sh_45 rfl (by decide) ?_
        refine v_icmp_lt (tgt := 77) dX3_stands_66 (by decide) (fun c18 => ?_) (fun c18 => ?_)
        · have h := h.1 c18
          refine v_iconst (v := 1) dX3_stands_77 (by decide) ?_
          refine v_goto (tgt := 82) dX3_stands_78 (by decide) ?_
          exact u_zret dX3_stands_82 rfl ⟨rfl, id⟩ h
        · have h := h.2 c18
          refine v_aload_n dX3_stands_69 rfl rfl ?_
          refine v_iload_n dX3_stands_70 rfl rfl ?_
          refine u_callV [.int a1] mX3_isCutAlready iX3_isCutAlready lX3_119 dX3_stands_71 sh_45 rfl rfl (by decide) ⟨rfl, rfl, id⟩ rfl rfl (Nat.le_of_ble_eq_true rfl) (Nat.le_of_ble_eq_true rfl) (v_X3_isCutAlready a1 _ _ h) ?_
          rintro _ τ20 ⟨r19, rfl, h⟩
          refine v_if_ne (tgt := 81) dX3_stands_74 (by decide) (fun c21 => ?_) (fun c21 => ?_)
          · have h := h.1 c21
            refine v_iconst (v := 0) dX3_stands_81 (by decide) ?_
            exact u_zret dX3_stands_82 rfl ⟨rfl, id⟩ h
          · have h := h.2 c21
            refine v_iconst (v := 1) dX3_stands_77 (by decide) ?_
            refine v_goto (tgt := 82) dX3_stands_78 (by decide) ?_
            exact u_zret dX3_stands_82 rfl ⟨rfl, id⟩ h
      · have h := h.2 c17
        refine v_iconst (v := 0) dX3_stands_57 (by decide) ?_
        exact u_zret dX3_stands_58 rfl ⟨rfl, id⟩ h
    · have h := h.2 c14
      refine v_iconst (v := 0) dX3_stands_45 (by decide) ?_
      exact u_zret dX3_stands_46 rfl ⟨rfl, id⟩ h
def T_X3_isOpened (a1 : Int32) (τ : kT) (post : Int32 → kT → Prop) : Prop := (((q_i τ 45 6) ≤ 0 → post (0 : Int32) τ) ∧ (¬ (q_i τ 45 6) ≤ 0 → ((((q_i τ 45 10) &&& ((1 : Int32) <<< (a1 &&& 31))) = 0 → post (0 : Int32) τ) ∧ (¬ ((q_i τ 45 10) &&& ((1 : Int32) <<< (a1 &&& 31))) = 0 → post (1 : Int32) τ))))
set_option maxRecDepth 100000 in
set_option maxHeartbeats 4000000 in
theorem v_X3_isOpened {d : Nat}  (a1 : Int32) (τ : kT) (post : Int32 → kT → Prop) (h : T_X3_isOpened  a1 τ post) : U yX3_isOpened cX3_isOpened 2 (some .boolean) (d + 0) kE0 0 [some (.ref 45), some (.int a1)] [] τ (k_pi post) := by
  unfold T_X3_isOpened at h
  refine v_aload_n dX3_isOpened_0 rfl rfl ?_
  refine u_geti fX3_79 dX3_isOpened_1 sh_45 rfl (by decide) ?_
  refine v_if_le (tgt := 22) dX3_isOpened_4 (by decide) (fun c1 => ?_) (fun c1 => ?_)
  · have h := h.1 c1
    refine v_iconst (v := 0) dX3_isOpened_22 (by decide) ?_
    exact u_zret dX3_isOpened_23 rfl ⟨rfl, id⟩ h
  · have h := h.2 c1
    refine v_aload_n dX3_isOpened_7 rfl rfl ?_
    refine u_geti fX3_82 dX3_isOpened_8 sh_45 rfl (by decide) ?_
    refine v_iconst (v := 1) dX3_isOpened_11 (by decide) ?_
    refine v_iload_n dX3_isOpened_12 rfl rfl ?_
    refine v_ishl dX3_isOpened_13 ?_
    refine v_iand dX3_isOpened_14 ?_
    refine v_if_eq (tgt := 22) dX3_isOpened_15 (by decide) (fun c2 => ?_) (fun c2 => ?_)
    · have h := h.1 c2
      refine v_iconst (v := 0) dX3_isOpened_22 (by decide) ?_
      exact u_zret dX3_isOpened_23 rfl ⟨rfl, id⟩ h
    · have h := h.2 c2
      refine v_iconst (v := 1) dX3_isOpened_18 (by decide) ?_
      refine v_goto (tgt := 23) dX3_isOpened_19 (by decide) ?_
      exact u_zret dX3_isOpened_23 rfl ⟨rfl, id⟩ h
def L_X3_isBarred_43  (f1 : Int32) (f2 : Int32) (f3 : Nat) (K : Int32 → kT → Prop) (post : Int32 → kT → Prop) : Nat → Int32 → kT → Prop
  | 0, _, _ => False
  | n + 1, x4, τ => (((q_i τ 45 3) ≤ x4 → K x4 τ) ∧ (¬ (q_i τ 45 3) ≤ x4 → (k_sh f3 = (1, 30, []) ∧ f3 < 80 ∧ (∃ j6 : Nat, ((f2 * (5 : Int32)) + x4) = nI j6 ∧ j6 < 30 ∧ (∀ v7 : Int32, v7 = (q_i τ f3 j6) → ((v7 = 0 → (∀ v9 : Int32, v9 = x4 + (1 : Int32) → L_X3_isBarred_43 f1 f2 f3 K post n v9 τ)) ∧ (¬ v7 = 0 → (∃ j10 : Nat, ((f1 * (5 : Int32)) + x4) = nI j10 ∧ j10 < 30 ∧ ((¬ (v7 &&& ((1 : Int32) <<< ((q_i τ 51 j10) &&& 31))) = 0 → (∀ v12 : Int32, v12 = x4 + (1 : Int32) → L_X3_isBarred_43 f1 f2 f3 K post n v12 τ)) ∧ ((v7 &&& ((1 : Int32) <<< ((q_i τ 51 j10) &&& 31))) = 0 → post (1 : Int32) τ))))))))))
def T_X3_isBarred (a1 : Int32) (a2 : Int32) (τ : kT) (post : Int32 → kT → Prop) : Prop := ((((q_i τ 45 11) &&& ((1 : Int32) <<< (a2 &&& 31))) = 0 → (T_X3_isOpened a2 τ (fun r2 τ3 => ((r2 = 0 → (∃ m13 : Nat, L_X3_isBarred_43  a1 a2 50 (fun v14 τ15 => post (0 : Int32) τ15) post m13 (0 : Int32) τ3)) ∧ (¬ r2 = 0 → (∃ j16 : Nat, ((q_i τ3 45 6) - (1 : Int32)) = nI j16 ∧ j16 < 6 ∧ (∃ m17 : Nat, L_X3_isBarred_43  a1 a2 (53 + j16) (fun v18 τ19 => post (0 : Int32) τ19) post m17 (0 : Int32) τ3))))))) ∧ (¬ ((q_i τ 45 11) &&& ((1 : Int32) <<< (a2 &&& 31))) = 0 → post (1 : Int32) τ))
set_option maxRecDepth 100000 in
set_option maxHeartbeats 4000000 in
theorem l_X3_isBarred_43 {d : Nat}  (f1 : Int32) (f2 : Int32) (f3 : Nat) {K : Int32 → kT → Prop} {post : Int32 → kT → Prop} (hK : ∀ (x4 : Int32) (τ : kT), K x4 τ → U yX3_isBarred cX3_isBarred 6 (some .boolean) (d + 1) kE0 94 [some (.ref 45), some (.int f1), some (.int f2), some (.ref f3), some (.int x4), none] [] τ (k_pi post)) : ∀ (n : Nat) (x4 : Int32) (τ : kT), L_X3_isBarred_43  f1 f2 f3 K post n x4 τ → U yX3_isBarred cX3_isBarred 6 (some .boolean) (d + 1) kE0 43 [some (.ref 45), some (.int f1), some (.int f2), some (.ref f3), some (.int x4), none] [] τ (k_pi post) := by
  intro n
  induction n with
  | zero => intro x4 τ h; exact h.elim
  | succ n ih =>
    intro x4 τ h
    unfold L_X3_isBarred_43 at h
    refine v_iload dX3_isBarred_43 rfl ?_
    refine v_aload_n dX3_isBarred_45 rfl rfl ?_
    refine u_geti fX3_45 dX3_isBarred_46 sh_45 rfl (by decide) ?_
    refine v_icmp_ge (tgt := 94) dX3_isBarred_49 (by decide) (fun c5 => ?_) (fun c5 => ?_)
    · have h := h.1 c5
      exact hK x4 _ h
    · have h := h.2 c5
      refine v_aload_n dX3_isBarred_52 rfl rfl ?_
      refine v_iload_n dX3_isBarred_53 rfl rfl ?_
      refine v_iconst (v := 5) dX3_isBarred_54 (by decide) ?_
      refine v_imul dX3_isBarred_55 ?_
      refine v_iload dX3_isBarred_56 rfl ?_
      refine v_iadd dX3_isBarred_58 ?_
      obtain ⟨e_s, e_t, h⟩ := h
      obtain ⟨j6, e_j6, l_j6, h⟩ := h
      refine u_iald dX3_isBarred_59 e_s e_t (by decide) e_j6 l_j6 ?_
      refine v_topi (fun v7 e_v7 => ?_)
      have h := h v7 e_v7
      refine v_istore dX3_isBarred_60 (by decide) rfl ?_
      refine v_ls (ls2 := [some (.ref 45), some (.int f1), some (.int f2), some (.ref f3), some (.int x4), some (.int v7)]) rfl ?_
      refine v_iload dX3_isBarred_62 rfl ?_
      refine v_if_eq (tgt := 88) dX3_isBarred_64 (by decide) (fun c8 => ?_) (fun c8 => ?_)
      · have h := h.1 c8
        obtain ⟨v9, e_v9⟩ : ∃ z : Int32, z = x4 + (1 : Int32) := ⟨_, rfl⟩
        have h := h v9 e_v9
        refine v_iinc (v := v9) dX3_isBarred_88 rfl (by rw [e_v9]; rfl) (by decide) rfl ?_
        refine v_ls (ls2 := [some (.ref 45), some (.int f1), some (.int f2), some (.ref f3), some (.int v9), some (.int v7)]) rfl ?_
        refine v_goto (tgt := 43) dX3_isBarred_91 (by decide) ?_
        refine v_none 5 ?_
        refine v_ls (ls2 := [some (.ref 45), some (.int f1), some (.int f2), some (.ref f3), some (.int v9), none]) rfl ?_
        exact ih v9 _ h
      · have h := h.2 c8
        refine v_iload dX3_isBarred_67 rfl ?_
        refine v_iconst (v := 1) dX3_isBarred_69 (by decide) ?_
        refine v_aload_n dX3_isBarred_70 rfl rfl ?_
        refine u_getr fX3_31 dX3_isBarred_71 sh_45 rfl (by decide) (rf_45_14 _) ?_
        refine v_iload_n dX3_isBarred_74 rfl rfl ?_
        refine v_iconst (v := 5) dX3_isBarred_75 (by decide) ?_
        refine v_imul dX3_isBarred_76 ?_
        refine v_iload dX3_isBarred_77 rfl ?_
        refine v_iadd dX3_isBarred_79 ?_
        obtain ⟨j10, e_j10, l_j10, h⟩ := h
        refine u_iald dX3_isBarred_80 sh_51 (by decide) (by decide) e_j10 l_j10 ?_
        refine v_ishl dX3_isBarred_81 ?_
        refine v_iand dX3_isBarred_82 ?_
        refine v_if_ne (tgt := 88) dX3_isBarred_83 (by decide) (fun c11 => ?_) (fun c11 => ?_)
        · have h := h.1 c11
          obtain ⟨v12, e_v12⟩ : ∃ z : Int32, z = x4 + (1 : Int32) := ⟨_, rfl⟩
          have h := h v12 e_v12
          refine v_iinc (v := v12) dX3_isBarred_88 rfl (by rw [e_v12]; rfl) (by decide) rfl ?_
          refine v_ls (ls2 := [some (.ref 45), some (.int f1), some (.int f2), some (.ref f3), some (.int v12), some (.int v7)]) rfl ?_
          refine v_goto (tgt := 43) dX3_isBarred_91 (by decide) ?_
          refine v_none 5 ?_
          refine v_ls (ls2 := [some (.ref 45), some (.int f1), some (.int f2), some (.ref f3), some (.int v12), none]) rfl ?_
          exact ih v12 _ h
        · have h := h.2 c11
          refine v_iconst (v := 1) dX3_isBarred_86 (by decide) ?_
          exact u_zret dX3_isBarred_87 rfl ⟨rfl, id⟩ h
set_option maxRecDepth 100000 in
set_option maxHeartbeats 4000000 in
theorem v_X3_isBarred {d : Nat}  (a1 : Int32) (a2 : Int32) (τ : kT) (post : Int32 → kT → Prop) (h : T_X3_isBarred  a1 a2 τ post) : U yX3_isBarred cX3_isBarred 6 (some .boolean) (d + 1) kE0 0 [some (.ref 45), some (.int a1), some (.int a2), none, none, none] [] τ (k_pi post) := by
  unfold T_X3_isBarred at h
  refine v_aload_n dX3_isBarred_0 rfl rfl ?_
  refine u_geti fX3_51 dX3_isBarred_1 sh_45 rfl (by decide) ?_
  refine v_iconst (v := 1) dX3_isBarred_4 (by decide) ?_
  refine v_iload_n dX3_isBarred_5 rfl rfl ?_
  refine v_ishl dX3_isBarred_6 ?_
  refine v_iand dX3_isBarred_7 ?_
  refine v_if_eq (tgt := 13) dX3_isBarred_8 (by decide) (fun c1 => ?_) (fun c1 => ?_)
  · have h := h.1 c1
    refine v_aload_n dX3_isBarred_13 rfl rfl ?_
    refine v_iload_n dX3_isBarred_14 rfl rfl ?_
    refine u_callV [.int a2] mX3_isOpened iX3_isOpened lX3_134 dX3_isBarred_15 sh_45 rfl rfl (by decide) ⟨rfl, rfl, id⟩ rfl rfl (Nat.le_of_ble_eq_true rfl) (Nat.le_of_ble_eq_true rfl) (v_X3_isOpened a2 _ _ h) ?_
    rintro _ τ3 ⟨r2, rfl, h⟩
    refine v_if_eq (tgt := 35) dX3_isBarred_18 (by decide) (fun c4 => ?_) (fun c4 => ?_)
    · have h := h.1 c4
      refine v_aload_n dX3_isBarred_35 rfl rfl ?_
      refine u_getr fX3_28 dX3_isBarred_36 sh_45 rfl (by decide) (rf_45_13 _) ?_
      refine v_astore_n dX3_isBarred_39 rfl (by decide) rfl ?_
      refine v_ls (ls2 := [some (.ref 45), some (.int a1), some (.int a2), some (.ref 50), none, none]) rfl ?_
      refine v_iconst (v := 0) dX3_isBarred_40 (by decide) ?_
      refine v_istore dX3_isBarred_41 (by decide) rfl ?_
      refine v_ls (ls2 := [some (.ref 45), some (.int a1), some (.int a2), some (.ref 50), some (.int (0 : Int32)), none]) rfl ?_
      obtain ⟨m13, h⟩ := h
      refine l_X3_isBarred_43  a1 a2 50 (fun v14 τ15 h => ?_) m13 (0 : Int32) _ h
      refine v_iconst (v := 0) dX3_isBarred_94 (by decide) ?_
      exact u_zret dX3_isBarred_95 rfl ⟨rfl, id⟩ h
    · have h := h.2 c4
      refine v_aload_n dX3_isBarred_21 rfl rfl ?_
      refine u_getr fX3_36 dX3_isBarred_22 sh_45 rfl (by decide) (rf_45_15 _) ?_
      refine v_aload_n dX3_isBarred_25 rfl rfl ?_
      refine u_geti fX3_79 dX3_isBarred_26 sh_45 rfl (by decide) ?_
      refine v_iconst (v := 1) dX3_isBarred_29 (by decide) ?_
      refine v_isub dX3_isBarred_30 ?_
      obtain ⟨j16, e_j16, l_j16, h⟩ := h
      refine u_aald dX3_isBarred_31 (by decide) e_j16 l_j16 ?_
      refine v_goto (tgt := 39) dX3_isBarred_32 (by decide) ?_
      refine v_astore_n dX3_isBarred_39 rfl (by decide) rfl ?_
      refine v_ls (ls2 := [some (.ref 45), some (.int a1), some (.int a2), some (.ref (53 + j16)), none, none]) rfl ?_
      refine v_iconst (v := 0) dX3_isBarred_40 (by decide) ?_
      refine v_istore dX3_isBarred_41 (by decide) rfl ?_
      refine v_ls (ls2 := [some (.ref 45), some (.int a1), some (.int a2), some (.ref (53 + j16)), some (.int (0 : Int32)), none]) rfl ?_
      obtain ⟨m17, h⟩ := h
      refine l_X3_isBarred_43  a1 a2 (53 + j16) (fun v18 τ19 h => ?_) m17 (0 : Int32) _ h
      refine v_iconst (v := 0) dX3_isBarred_94 (by decide) ?_
      exact u_zret dX3_isBarred_95 rfl ⟨rfl, id⟩ h
  · have h := h.2 c1
    refine v_iconst (v := 1) dX3_isBarred_11 (by decide) ?_
    exact u_zret dX3_isBarred_12 rfl ⟨rfl, id⟩ h
def L_X3_everyNeverIsMet_12  (f1 : Int32) (K : Int32 → kT → Prop) (post : Int32 → kT → Prop) : Nat → Int32 → kT → Prop
  | 0, _, _ => False
  | n + 1, x2, τ => (((q_i τ 45 2) ≤ x2 → K x2 τ) ∧ (¬ (q_i τ 45 2) ≤ x2 → (∃ j3 : Nat, f1 = nI j3 ∧ j3 < 6 ∧ ((((q_i τ 48 j3) &&& ((1 : Int32) <<< (x2 &&& 31))) = 0 → (∀ v5 : Int32, v5 = x2 + (1 : Int32) → L_X3_everyNeverIsMet_12 f1 K post n v5 τ)) ∧ (¬ ((q_i τ 48 j3) &&& ((1 : Int32) <<< (x2 &&& 31))) = 0 → (T_X3_isBarred f1 x2 τ (fun r6 τ7 => ((¬ r6 = 0 → (∀ v9 : Int32, v9 = x2 + (1 : Int32) → L_X3_everyNeverIsMet_12 f1 K post n v9 τ7)) ∧ (r6 = 0 → post (0 : Int32) τ7)))))))))
def L_X3_everyNeverIsMet_2   (K : Int32 → kT → Prop) (post : Int32 → kT → Prop) : Nat → Int32 → kT → Prop
  | 0, _, _ => False
  | n + 1, x1, τ => (((q_i τ 45 1) ≤ x1 → K x1 τ) ∧ (¬ (q_i τ 45 1) ≤ x1 → (∃ m10 : Nat, L_X3_everyNeverIsMet_12  x1 (fun v11 τ12 => (∀ v13 : Int32, v13 = x1 + (1 : Int32) → L_X3_everyNeverIsMet_2  K post n v13 τ12)) post m10 (0 : Int32) τ)))
def T_X3_everyNeverIsMet  (τ : kT) (post : Int32 → kT → Prop) : Prop := (∃ m14 : Nat, L_X3_everyNeverIsMet_2   (fun v15 τ16 => post (1 : Int32) τ16) post m14 (0 : Int32) τ)
set_option maxRecDepth 100000 in
set_option maxHeartbeats 4000000 in
theorem l_X3_everyNeverIsMet_12 {d : Nat}  (f1 : Int32) {K : Int32 → kT → Prop} {post : Int32 → kT → Prop} (hK : ∀ (x2 : Int32) (τ : kT), K x2 τ → U yX3_everyNeverIsMet cX3_everyNeverIsMet 3 (some .boolean) (d + 2) kE0 50 [some (.ref 45), some (.int f1), some (.int x2)] [] τ (k_pi post)) : ∀ (n : Nat) (x2 : Int32) (τ : kT), L_X3_everyNeverIsMet_12  f1 K post n x2 τ → U yX3_everyNeverIsMet cX3_everyNeverIsMet 3 (some .boolean) (d + 2) kE0 12 [some (.ref 45), some (.int f1), some (.int x2)] [] τ (k_pi post) := by
  intro n
  induction n with
  | zero => intro x2 τ h; exact h.elim
  | succ n ih =>
    intro x2 τ h
    unfold L_X3_everyNeverIsMet_12 at h
    refine v_iload_n dX3_everyNeverIsMet_12 rfl rfl ?_
    refine v_aload_n dX3_everyNeverIsMet_13 rfl rfl ?_
    refine u_geti fX3_42 dX3_everyNeverIsMet_14 sh_45 rfl (by decide) ?_
    refine v_icmp_ge (tgt := 50) dX3_everyNeverIsMet_17 (by decide) (fun c2 => ?_) (fun c2 => ?_)
    · have h := h.1 c2
      exact hK x2 _ h
    · have h := h.2 c2
      refine v_aload_n dX3_everyNeverIsMet_20 rfl rfl ?_
      refine u_getr fX3_22 dX3_everyNeverIsMet_21 sh_45 rfl (by decide) (rf_45_9 _) ?_
      refine v_iload_n dX3_everyNeverIsMet_24 rfl rfl ?_
      obtain ⟨j3, e_j3, l_j3, h⟩ := h
      refine u_iald dX3_everyNeverIsMet_25 sh_48 (by decide) (by decide) e_j3 l_j3 ?_
      refine v_iconst (v := 1) dX3_everyNeverIsMet_26 (by decide) ?_
      refine v_iload_n dX3_everyNeverIsMet_27 rfl rfl ?_
      refine v_ishl dX3_everyNeverIsMet_28 ?_
      refine v_iand dX3_everyNeverIsMet_29 ?_
      refine v_if_eq (tgt := 44) dX3_everyNeverIsMet_30 (by decide) (fun c4 => ?_) (fun c4 => ?_)
      · have h := h.1 c4
        obtain ⟨v5, e_v5⟩ : ∃ z : Int32, z = x2 + (1 : Int32) := ⟨_, rfl⟩
        have h := h v5 e_v5
        refine v_iinc (v := v5) dX3_everyNeverIsMet_44 rfl (by rw [e_v5]; rfl) (by decide) rfl ?_
        refine v_ls (ls2 := [some (.ref 45), some (.int f1), some (.int v5)]) rfl ?_
        refine v_goto (tgt := 12) dX3_everyNeverIsMet_47 (by decide) ?_
        exact ih v5 _ h
      · have h := h.2 c4
        refine v_aload_n dX3_everyNeverIsMet_33 rfl rfl ?_
        refine v_iload_n dX3_everyNeverIsMet_34 rfl rfl ?_
        refine v_iload_n dX3_everyNeverIsMet_35 rfl rfl ?_
        refine u_callV [.int f1, .int x2] mX3_isBarred iX3_isBarred lX3_131 dX3_everyNeverIsMet_36 sh_45 rfl rfl (by decide) ⟨rfl, rfl, id⟩ rfl rfl (Nat.le_of_ble_eq_true rfl) (Nat.le_of_ble_eq_true rfl) (v_X3_isBarred f1 x2 _ _ h) ?_
        rintro _ τ7 ⟨r6, rfl, h⟩
        refine v_if_ne (tgt := 44) dX3_everyNeverIsMet_39 (by decide) (fun c8 => ?_) (fun c8 => ?_)
        · have h := h.1 c8
          obtain ⟨v9, e_v9⟩ : ∃ z : Int32, z = x2 + (1 : Int32) := ⟨_, rfl⟩
          have h := h v9 e_v9
          refine v_iinc (v := v9) dX3_everyNeverIsMet_44 rfl (by rw [e_v9]; rfl) (by decide) rfl ?_
          refine v_ls (ls2 := [some (.ref 45), some (.int f1), some (.int v9)]) rfl ?_
          refine v_goto (tgt := 12) dX3_everyNeverIsMet_47 (by decide) ?_
          exact ih v9 _ h
        · have h := h.2 c8
          refine v_iconst (v := 0) dX3_everyNeverIsMet_42 (by decide) ?_
          exact u_zret dX3_everyNeverIsMet_43 rfl ⟨rfl, id⟩ h
set_option maxRecDepth 100000 in
set_option maxHeartbeats 4000000 in
theorem l_X3_everyNeverIsMet_2 {d : Nat}   {K : Int32 → kT → Prop} {post : Int32 → kT → Prop} (hK : ∀ (x1 : Int32) (τ : kT), K x1 τ → U yX3_everyNeverIsMet cX3_everyNeverIsMet 3 (some .boolean) (d + 2) kE0 56 [some (.ref 45), some (.int x1), none] [] τ (k_pi post)) : ∀ (n : Nat) (x1 : Int32) (τ : kT), L_X3_everyNeverIsMet_2   K post n x1 τ → U yX3_everyNeverIsMet cX3_everyNeverIsMet 3 (some .boolean) (d + 2) kE0 2 [some (.ref 45), some (.int x1), none] [] τ (k_pi post) := by
  intro n
  induction n with
  | zero => intro x1 τ h; exact h.elim
  | succ n ih =>
    intro x1 τ h
    unfold L_X3_everyNeverIsMet_2 at h
    refine v_iload_n dX3_everyNeverIsMet_2 rfl rfl ?_
    refine v_aload_n dX3_everyNeverIsMet_3 rfl rfl ?_
    refine u_geti fX3_39 dX3_everyNeverIsMet_4 sh_45 rfl (by decide) ?_
    refine v_icmp_ge (tgt := 56) dX3_everyNeverIsMet_7 (by decide) (fun c1 => ?_) (fun c1 => ?_)
    · have h := h.1 c1
      exact hK x1 _ h
    · have h := h.2 c1
      refine v_iconst (v := 0) dX3_everyNeverIsMet_10 (by decide) ?_
      refine v_istore_n dX3_everyNeverIsMet_11 rfl (by decide) rfl ?_
      refine v_ls (ls2 := [some (.ref 45), some (.int x1), some (.int (0 : Int32))]) rfl ?_
      obtain ⟨m10, h⟩ := h
      refine l_X3_everyNeverIsMet_12  x1 (fun v11 τ12 h => ?_) m10 (0 : Int32) _ h
      obtain ⟨v13, e_v13⟩ : ∃ z : Int32, z = x1 + (1 : Int32) := ⟨_, rfl⟩
      have h := h v13 e_v13
      refine v_iinc (v := v13) dX3_everyNeverIsMet_50 rfl (by rw [e_v13]; rfl) (by decide) rfl ?_
      refine v_ls (ls2 := [some (.ref 45), some (.int v13), some (.int v11)]) rfl ?_
      refine v_goto (tgt := 2) dX3_everyNeverIsMet_53 (by decide) ?_
      refine v_none 2 ?_
      refine v_ls (ls2 := [some (.ref 45), some (.int v13), none]) rfl ?_
      exact ih v13 _ h
set_option maxRecDepth 100000 in
set_option maxHeartbeats 4000000 in
theorem v_X3_everyNeverIsMet {d : Nat}   (τ : kT) (post : Int32 → kT → Prop) (h : T_X3_everyNeverIsMet   τ post) : U yX3_everyNeverIsMet cX3_everyNeverIsMet 3 (some .boolean) (d + 2) kE0 0 [some (.ref 45), none, none] [] τ (k_pi post) := by
  unfold T_X3_everyNeverIsMet at h
  refine v_iconst (v := 0) dX3_everyNeverIsMet_0 (by decide) ?_
  refine v_istore_n dX3_everyNeverIsMet_1 rfl (by decide) rfl ?_
  refine v_ls (ls2 := [some (.ref 45), some (.int (0 : Int32)), none]) rfl ?_
  obtain ⟨m14, h⟩ := h
  refine l_X3_everyNeverIsMet_2   (fun v15 τ16 h => ?_) m14 (0 : Int32) _ h
  refine v_iconst (v := 1) dX3_everyNeverIsMet_56 (by decide) ?_
  exact u_zret dX3_everyNeverIsMet_57 rfl ⟨rfl, id⟩ h
def T_X3_goOn (R : Int32 → Int32 → kT → (Int32 → kT → Prop) → Prop) (a1 : Int32) (a2 : Int32) (τ : kT) (post : Int32 → kT → Prop) : Prop := (((q_i τ 45 3) ≤ (a2 + (1 : Int32)) → (((q_i τ 45 6) ≤ (a1 + (1 : Int32)) → (T_X3_everyNeverIsMet  τ (fun r3 τ4 => ((r3 = 0 → post (0 : Int32) τ4) ∧ (¬ r3 = 0 → post (1 : Int32) τ4))))) ∧ (¬ (q_i τ 45 6) ≤ (a1 + (1 : Int32)) → (R (a1 + (1 : Int32)) (0 : Int32) τ (fun r6 τ7 => post r6 τ7))))) ∧ (¬ (q_i τ 45 3) ≤ (a2 + (1 : Int32)) → (R a1 (a2 + (1 : Int32)) τ (fun r8 τ9 => post r8 τ9))))
set_option maxRecDepth 100000 in
set_option maxHeartbeats 4000000 in
theorem v_X3_goOn {d : Nat} {R : Int32 → Int32 → kT → (Int32 → kT → Prop) → Prop} (hR : ∀ (a1 : Int32) (a2 : Int32) (τ : kT) (post : Int32 → kT → Prop), R a1 a2 τ post → U yX3_tryCuts cX3_tryCuts 5 (some .int) (d + 2) kE0 0 [some (.ref 45), some (.int a1), some (.int a2), none, none] [] τ (k_pi post)) (a1 : Int32) (a2 : Int32) (τ : kT) (post : Int32 → kT → Prop) (h : T_X3_goOn R a1 a2 τ post) : U yX3_goOn cX3_goOn 3 (some .int) (d + 3) kE0 0 [some (.ref 45), some (.int a1), some (.int a2)] [] τ (k_pi post) := by
  unfold T_X3_goOn at h
  refine v_iload_n dX3_goOn_0 rfl rfl ?_
  refine v_iconst (v := 1) dX3_goOn_1 (by decide) ?_
  refine v_iadd dX3_goOn_2 ?_
  refine v_aload_n dX3_goOn_3 rfl rfl ?_
  refine u_geti fX3_45 dX3_goOn_4 sh_45 rfl (by decide) ?_
  refine v_icmp_ge (tgt := 19) dX3_goOn_7 (by decide) (fun c1 => ?_) (fun c1 => ?_)
  · have h := h.1 c1
    refine v_iload_n dX3_goOn_19 rfl rfl ?_
    refine v_iconst (v := 1) dX3_goOn_20 (by decide) ?_
    refine v_iadd dX3_goOn_21 ?_
    refine v_aload_n dX3_goOn_22 rfl rfl ?_
    refine u_geti fX3_79 dX3_goOn_23 sh_45 rfl (by decide) ?_
    refine v_icmp_ge (tgt := 38) dX3_goOn_26 (by decide) (fun c2 => ?_) (fun c2 => ?_)
    · have h := h.1 c2
      refine v_aload_n dX3_goOn_38 rfl rfl ?_
      refine u_callV [] mX3_everyNeverIsMet iX3_everyNeverIsMet lX3_97 dX3_goOn_39 sh_45 rfl rfl (by decide) ⟨rfl, rfl, id⟩ rfl rfl (Nat.le_of_ble_eq_true rfl) (Nat.le_of_ble_eq_true rfl) (v_X3_everyNeverIsMet  _ _ h) ?_
      rintro _ τ4 ⟨r3, rfl, h⟩
      refine v_if_eq (tgt := 49) dX3_goOn_42 (by decide) (fun c5 => ?_) (fun c5 => ?_)
      · have h := h.1 c5
        refine v_iconst (v := 0) dX3_goOn_49 (by decide) ?_
        exact u_iret dX3_goOn_50 ⟨rfl, id⟩ h
      · have h := h.2 c5
        refine v_iconst (v := 1) dX3_goOn_45 (by decide) ?_
        refine v_goto (tgt := 50) dX3_goOn_46 (by decide) ?_
        exact u_iret dX3_goOn_50 ⟨rfl, id⟩ h
    · have h := h.2 c2
      refine v_aload_n dX3_goOn_29 rfl rfl ?_
      refine v_iload_n dX3_goOn_30 rfl rfl ?_
      refine v_iconst (v := 1) dX3_goOn_31 (by decide) ?_
      refine v_iadd dX3_goOn_32 ?_
      refine v_iconst (v := 0) dX3_goOn_33 (by decide) ?_
      refine u_callV [.int (a1 + (1 : Int32)), .int (0 : Int32)] mX3_tryCuts iX3_tryCuts lX3_101 dX3_goOn_34 sh_45 rfl rfl (by decide) ⟨rfl, rfl, id⟩ rfl rfl (Nat.le_of_ble_eq_true rfl) (Nat.le_of_ble_eq_true rfl) (hR (a1 + (1 : Int32)) (0 : Int32) _ _ h) ?_
      rintro _ τ7 ⟨r6, rfl, h⟩
      exact u_iret dX3_goOn_37 ⟨rfl, id⟩ h
  · have h := h.2 c1
    refine v_aload_n dX3_goOn_10 rfl rfl ?_
    refine v_iload_n dX3_goOn_11 rfl rfl ?_
    refine v_iload_n dX3_goOn_12 rfl rfl ?_
    refine v_iconst (v := 1) dX3_goOn_13 (by decide) ?_
    refine v_iadd dX3_goOn_14 ?_
    refine u_callV [.int a1, .int (a2 + (1 : Int32))] mX3_tryCuts iX3_tryCuts lX3_101 dX3_goOn_15 sh_45 rfl rfl (by decide) ⟨rfl, rfl, id⟩ rfl rfl (Nat.le_of_ble_eq_true rfl) (Nat.le_of_ble_eq_true rfl) (hR a1 (a2 + (1 : Int32)) _ _ h) ?_
    rintro _ τ9 ⟨r8, rfl, h⟩
    exact u_iret dX3_goOn_18 ⟨rfl, id⟩ h
def L_X3_tryCuts_20 (TR : Int32 → Int32 → kT → (Int32 → kT → Prop) → Prop) (f1 : Int32) (f2 : Int32) (K : Int32 → kT → Prop) (post : Int32 → kT → Prop) : Nat → Int32 → kT → Prop
  | 0, _, _ => False
  | n + 1, x3, τ => (((9 : Int32) < x3 → K x3 τ) ∧ (¬ (9 : Int32) < x3 → (((q_i τ 45 0) < (4000 : Int32) → (∀ τ5 : kT, τ5 = q_si τ 45 0 ((q_i τ 45 0) + (1 : Int32)) → (T_X3_stands f1 f2 x3 τ5 (fun r6 τ7 => ((r6 = 0 → (((0 : Int32) = 0 → (∀ v10 : Int32, v10 = x3 + (1 : Int32) → L_X3_tryCuts_20 TR f1 f2 K post n v10 τ7)) ∧ (¬ (0 : Int32) = 0 → post (0 : Int32) τ7))) ∧ (¬ r6 = 0 → (T_X3_goOn TR f1 f2 τ7 (fun r11 τ12 => ((r11 = 0 → (∀ v14 : Int32, v14 = x3 + (1 : Int32) → L_X3_tryCuts_20 TR f1 f2 K post n v14 τ12)) ∧ (¬ r11 = 0 → post r11 τ12)))))))))) ∧ (¬ (q_i τ 45 0) < (4000 : Int32) → post (-5 : Int32) τ))))
def T_X3_tryCuts : Nat → Int32 → Int32 → kT → (Int32 → kT → Prop) → Prop
  | 0, _, _, _, _ => False
  | n0 + 1, a1, a2, τ, post => (((q_i τ 45 6) ≤ a1 → post (0 : Int32) τ) ∧ (¬ (q_i τ 45 6) ≤ a1 → ((a2 < (q_i τ 45 3) → (∃ m15 : Nat, L_X3_tryCuts_20 (T_X3_tryCuts n0) a1 a2 (fun v16 τ17 => post (0 : Int32) τ17) post m15 (0 : Int32) τ)) ∧ (¬ a2 < (q_i τ 45 3) → post (0 : Int32) τ))))
set_option maxRecDepth 100000 in
set_option maxHeartbeats 4000000 in
theorem l_X3_tryCuts_20 {d : Nat} {TR : Int32 → Int32 → kT → (Int32 → kT → Prop) → Prop} (ihR : ∀ (a1 : Int32) (a2 : Int32) (τ : kT) (post : Int32 → kT → Prop), TR a1 a2 τ post → U yX3_tryCuts cX3_tryCuts 5 (some .int) (d + 4) kE0 0 [some (.ref 45), some (.int a1), some (.int a2), none, none] [] τ (k_pi post)) (f1 : Int32) (f2 : Int32) {K : Int32 → kT → Prop} {post : Int32 → kT → Prop} (hK : ∀ (x3 : Int32) (τ : kT), K x3 τ → U yX3_tryCuts cX3_tryCuts 5 (some .int) (d + 6) kE0 85 [some (.ref 45), some (.int f1), some (.int f2), some (.int x3), none] [] τ (k_pi post)) : ∀ (n : Nat) (x3 : Int32) (τ : kT), L_X3_tryCuts_20 TR f1 f2 K post n x3 τ → U yX3_tryCuts cX3_tryCuts 5 (some .int) (d + 6) kE0 20 [some (.ref 45), some (.int f1), some (.int f2), some (.int x3), none] [] τ (k_pi post) := by
  intro n
  induction n with
  | zero => intro x3 τ h; exact h.elim
  | succ n ih =>
    intro x3 τ h
    unfold L_X3_tryCuts_20 at h
    refine v_iload_n dX3_tryCuts_20 rfl rfl ?_
    refine v_bipush (v := 9) dX3_tryCuts_21 (by decide) ?_
    refine v_icmp_gt (tgt := 85) dX3_tryCuts_23 (by decide) (fun c3 => ?_) (fun c3 => ?_)
    · have h := h.1 c3
      exact hK x3 _ h
    · have h := h.2 c3
      refine v_aload_n dX3_tryCuts_26 rfl rfl ?_
      refine u_geti fX3_9 dX3_tryCuts_27 sh_45 rfl (by decide) ?_
      refine v_sipush (v := 4000) dX3_tryCuts_30 (by decide) ?_
      refine v_icmp_lt (tgt := 39) dX3_tryCuts_33 (by decide) (fun c4 => ?_) (fun c4 => ?_)
      · have h := h.1 c4
        refine v_aload_n dX3_tryCuts_39 rfl rfl ?_
        refine v_dup dX3_tryCuts_40 rfl ?_
        refine u_geti fX3_9 dX3_tryCuts_41 sh_45 rfl (by decide) ?_
        refine v_iconst (v := 1) dX3_tryCuts_44 (by decide) ?_
        refine v_iadd dX3_tryCuts_45 ?_
        refine u_puti pX3_9 ⟨_, rfl⟩ dX3_tryCuts_46 sh_45 rfl (by decide) (by decide) (fun τ5 e_τ5 => ?_)
        have h := h τ5 e_τ5
        refine v_aload_n dX3_tryCuts_49 rfl rfl ?_
        refine v_iload_n dX3_tryCuts_50 rfl rfl ?_
        refine v_iload_n dX3_tryCuts_51 rfl rfl ?_
        refine v_iload_n dX3_tryCuts_52 rfl rfl ?_
        refine u_callV [.int f1, .int f2, .int x3] mX3_stands iX3_stands lX3_104 dX3_tryCuts_53 sh_45 rfl rfl (by decide) ⟨rfl, rfl, id⟩ rfl rfl (Nat.le_of_ble_eq_true rfl) (Nat.le_of_ble_eq_true rfl) (v_X3_stands f1 f2 x3 _ _ h) ?_
        rintro _ τ7 ⟨r6, rfl, h⟩
        refine v_if_eq (tgt := 68) dX3_tryCuts_56 (by decide) (fun c8 => ?_) (fun c8 => ?_)
        · have h := h.1 c8
          refine v_iconst (v := 0) dX3_tryCuts_68 (by decide) ?_
          refine v_istore dX3_tryCuts_69 (by decide) rfl ?_
          refine v_ls (ls2 := [some (.ref 45), some (.int f1), some (.int f2), some (.int x3), some (.int (0 : Int32))]) rfl ?_
          refine v_iload dX3_tryCuts_71 rfl ?_
          refine v_if_eq (tgt := 79) dX3_tryCuts_73 (by decide) (fun c9 => ?_) (fun c9 => ?_)
          · have h := h.1 c9
            obtain ⟨v10, e_v10⟩ : ∃ z : Int32, z = x3 + (1 : Int32) := ⟨_, rfl⟩
            have h := h v10 e_v10
            refine v_iinc (v := v10) dX3_tryCuts_79 rfl (by rw [e_v10]; rfl) (by decide) rfl ?_
            refine v_ls (ls2 := [some (.ref 45), some (.int f1), some (.int f2), some (.int v10), some (.int (0 : Int32))]) rfl ?_
            refine v_goto (tgt := 20) dX3_tryCuts_82 (by decide) ?_
            refine v_none 4 ?_
            refine v_ls (ls2 := [some (.ref 45), some (.int f1), some (.int f2), some (.int v10), none]) rfl ?_
            exact ih v10 _ h
          · have h := h.2 c9
            refine v_iload dX3_tryCuts_76 rfl ?_
            exact u_iret dX3_tryCuts_78 ⟨rfl, id⟩ h
        · have h := h.2 c8
          refine v_aload_n dX3_tryCuts_59 rfl rfl ?_
          refine v_iload_n dX3_tryCuts_60 rfl rfl ?_
          refine v_iload_n dX3_tryCuts_61 rfl rfl ?_
          refine u_callV [.int f1, .int f2] mX3_goOn iX3_goOn lX3_108 dX3_tryCuts_62 sh_45 rfl rfl (by decide) ⟨rfl, rfl, id⟩ rfl rfl (Nat.le_of_ble_eq_true rfl) (Nat.le_of_ble_eq_true rfl) (v_X3_goOn ihR f1 f2 _ _ h) ?_
          rintro _ τ12 ⟨r11, rfl, h⟩
          refine v_goto (tgt := 69) dX3_tryCuts_65 (by decide) ?_
          refine v_istore dX3_tryCuts_69 (by decide) rfl ?_
          refine v_ls (ls2 := [some (.ref 45), some (.int f1), some (.int f2), some (.int x3), some (.int r11)]) rfl ?_
          refine v_iload dX3_tryCuts_71 rfl ?_
          refine v_if_eq (tgt := 79) dX3_tryCuts_73 (by decide) (fun c13 => ?_) (fun c13 => ?_)
          · have h := h.1 c13
            obtain ⟨v14, e_v14⟩ : ∃ z : Int32, z = x3 + (1 : Int32) := ⟨_, rfl⟩
            have h := h v14 e_v14
            refine v_iinc (v := v14) dX3_tryCuts_79 rfl (by rw [e_v14]; rfl) (by decide) rfl ?_
            refine v_ls (ls2 := [some (.ref 45), some (.int f1), some (.int f2), some (.int v14), some (.int r11)]) rfl ?_
            refine v_goto (tgt := 20) dX3_tryCuts_82 (by decide) ?_
            refine v_none 4 ?_
            refine v_ls (ls2 := [some (.ref 45), some (.int f1), some (.int f2), some (.int v14), none]) rfl ?_
            exact ih v14 _ h
          · have h := h.2 c13
            refine v_iload dX3_tryCuts_76 rfl ?_
            exact u_iret dX3_tryCuts_78 ⟨rfl, id⟩ h
      · have h := h.2 c4
        refine v_bipush (v := -5) dX3_tryCuts_36 (by decide) ?_
        exact u_iret dX3_tryCuts_38 ⟨rfl, id⟩ h
set_option maxRecDepth 100000 in
set_option maxHeartbeats 4000000 in
theorem v_X3_tryCuts {d : Nat} : ∀ (n : Nat) (a1 : Int32) (a2 : Int32) (τ : kT) (post : Int32 → kT → Prop), T_X3_tryCuts n a1 a2 τ post → U yX3_tryCuts cX3_tryCuts 5 (some .int) (d + 2 * n + 4) kE0 0 [some (.ref 45), some (.int a1), some (.int a2), none, none] [] τ (k_pi post) := by
  intro n
  induction n with
  | zero => intro a1 a2 τ post h; exact h.elim
  | succ n0 ihR =>
    intro a1 a2 τ post h
    unfold T_X3_tryCuts at h
    rw [show d + 2 * (n0 + 1) + 4 = d + 2 * n0 + 6 by omega]
    refine v_iload_n dX3_tryCuts_0 rfl rfl ?_
    refine v_aload_n dX3_tryCuts_1 rfl rfl ?_
    refine u_geti fX3_79 dX3_tryCuts_2 sh_45 rfl (by decide) ?_
    refine v_icmp_ge (tgt := 16) dX3_tryCuts_5 (by decide) (fun c1 => ?_) (fun c1 => ?_)
    · have h := h.1 c1
      refine v_iconst (v := 0) dX3_tryCuts_16 (by decide) ?_
      exact u_iret dX3_tryCuts_17 ⟨rfl, id⟩ h
    · have h := h.2 c1
      refine v_iload_n dX3_tryCuts_8 rfl rfl ?_
      refine v_aload_n dX3_tryCuts_9 rfl rfl ?_
      refine u_geti fX3_45 dX3_tryCuts_10 sh_45 rfl (by decide) ?_
      refine v_icmp_lt (tgt := 18) dX3_tryCuts_13 (by decide) (fun c2 => ?_) (fun c2 => ?_)
      · have h := h.1 c2
        refine v_iconst (v := 0) dX3_tryCuts_18 (by decide) ?_
        refine v_istore_n dX3_tryCuts_19 rfl (by decide) rfl ?_
        refine v_ls (ls2 := [some (.ref 45), some (.int a1), some (.int a2), some (.int (0 : Int32)), none]) rfl ?_
        obtain ⟨m15, h⟩ := h
        refine l_X3_tryCuts_20 ihR a1 a2 (fun v16 τ17 h => ?_) m15 (0 : Int32) _ h
        refine v_iconst (v := 0) dX3_tryCuts_85 (by decide) ?_
        exact u_iret dX3_tryCuts_86 ⟨rfl, id⟩ h
      · have h := h.2 c2
        refine v_iconst (v := 0) dX3_tryCuts_16 (by decide) ?_
        exact u_iret dX3_tryCuts_17 ⟨rfl, id⟩ h
theorem v_X3_tryCuts_N {d : Nat} (a1 : Int32) (a2 : Int32) (τ : kT) (post : Int32 → kT → Prop) (h : T_X3_tryCuts 31 a1 a2 τ post) : U yX3_tryCuts cX3_tryCuts 5 (some .int) (d + 66) kE0 0 [some (.ref 45), some (.int a1), some (.int a2), none, none] [] τ (k_pi post) := by
  have h9 := v_X3_tryCuts (d := d) 31 a1 a2 τ post h
  rw [show d + 2 * 31 + 4 = d + 66 by omega] at h9
  exact h9
def T_X3_search  (τ : kT) (post : Int32 → kT → Prop) : Prop := (∀ τ1 : kT, τ1 = q_si τ 45 0 (0 : Int32) → ((¬ (q_i τ1 45 6) = 0 → (T_X3_tryCuts 31 (0 : Int32) (0 : Int32) τ1 (fun r3 τ4 => post r3 τ4))) ∧ ((q_i τ1 45 6) = 0 → (T_X3_everyNeverIsMet  τ1 (fun r5 τ6 => ((r5 = 0 → post (0 : Int32) τ6) ∧ (¬ r5 = 0 → post (1 : Int32) τ6)))))))
set_option maxRecDepth 100000 in
set_option maxHeartbeats 4000000 in
theorem v_X3_search {d : Nat}   (τ : kT) (post : Int32 → kT → Prop) (h : T_X3_search   τ post) : U yX3_search cX3_search 1 (some .int) (d + 67) kE0 0 [some (.ref 45)] [] τ (k_pi post) := by
  unfold T_X3_search at h
  refine v_aload_n dX3_search_0 rfl rfl ?_
  refine v_iconst (v := 0) dX3_search_1 (by decide) ?_
  refine u_puti pX3_9 ⟨_, rfl⟩ dX3_search_2 sh_45 rfl (by decide) (by decide) (fun τ1 e_τ1 => ?_)
  have h := h τ1 e_τ1
  refine v_aload_n dX3_search_5 rfl rfl ?_
  refine u_geti fX3_79 dX3_search_6 sh_45 rfl (by decide) ?_
  refine v_if_ne (tgt := 25) dX3_search_9 (by decide) (fun c2 => ?_) (fun c2 => ?_)
  · have h := h.1 c2
    refine v_aload_n dX3_search_25 rfl rfl ?_
    refine v_iconst (v := 0) dX3_search_26 (by decide) ?_
    refine v_iconst (v := 0) dX3_search_27 (by decide) ?_
    refine u_callV [.int (0 : Int32), .int (0 : Int32)] mX3_tryCuts iX3_tryCuts lX3_101 dX3_search_28 sh_45 rfl rfl (by decide) ⟨rfl, rfl, id⟩ rfl rfl (Nat.le_of_ble_eq_true rfl) (Nat.le_of_ble_eq_true rfl) (v_X3_tryCuts_N (0 : Int32) (0 : Int32) _ _ h) ?_
    rintro _ τ4 ⟨r3, rfl, h⟩
    exact u_iret dX3_search_31 ⟨rfl, id⟩ h
  · have h := h.2 c2
    refine v_aload_n dX3_search_12 rfl rfl ?_
    refine u_callV [] mX3_everyNeverIsMet iX3_everyNeverIsMet lX3_97 dX3_search_13 sh_45 rfl rfl (by decide) ⟨rfl, rfl, id⟩ rfl rfl (Nat.le_of_ble_eq_true rfl) (Nat.le_of_ble_eq_true rfl) (v_X3_everyNeverIsMet  _ _ h) ?_
    rintro _ τ6 ⟨r5, rfl, h⟩
    refine v_if_eq (tgt := 23) dX3_search_16 (by decide) (fun c7 => ?_) (fun c7 => ?_)
    · have h := h.1 c7
      refine v_iconst (v := 0) dX3_search_23 (by decide) ?_
      exact u_iret dX3_search_24 ⟨rfl, id⟩ h
    · have h := h.2 c7
      refine v_iconst (v := 1) dX3_search_19 (by decide) ?_
      refine v_goto (tgt := 24) dX3_search_20 (by decide) ?_
      exact u_iret dX3_search_24 ⟨rfl, id⟩ h
def L_X3_fillChambers_3  (f2 : Int32) (f3 : Int32) (K : Int32 → kT → Prop) (post : kT → Prop) : Nat → Int32 → kT → Prop
  | 0, _, _ => False
  | n + 1, x4, τ => (((q_i τ 45 3) ≤ x4 → K x4 τ) ∧ (¬ (q_i τ 45 3) ≤ x4 → (∃ j2 : Nat, ((q_i τ 45 6) - (1 : Int32)) = nI j2 ∧ j2 < 6 ∧ (∃ j3 : Nat, ((f3 * (5 : Int32)) + x4) = nI j3 ∧ j3 < 30 ∧ (T_X4_setHeights f2 x4 (q_i τ (53 + j2) j3) τ (fun τ5 => (∀ v6 : Int32, v6 = x4 + (1 : Int32) → L_X3_fillChambers_3 f2 f3 K post n v6 τ5)))))))
def T_X3_fillChambers (a1 : Int32) (a2 : Int32) (τ : kT) (post : kT → Prop) : Prop := (∃ m7 : Nat, L_X3_fillChambers_3  a1 a2 (fun v8 τ9 => post τ9) post m7 (0 : Int32) τ)
set_option maxRecDepth 100000 in
set_option maxHeartbeats 4000000 in
theorem l_X3_fillChambers_3 {d : Nat}  (f2 : Int32) (f3 : Int32) {K : Int32 → kT → Prop} {post : kT → Prop} (hK : ∀ (x4 : Int32) (τ : kT), K x4 τ → U yX3_fillChambers cX3_fillChambers 5 none (d + 3) kE0 43 [some (.ref 45), some (.ref 2), some (.int f2), some (.int f3), some (.int x4)] [] τ (k_pv post)) : ∀ (n : Nat) (x4 : Int32) (τ : kT), L_X3_fillChambers_3  f2 f3 K post n x4 τ → U yX3_fillChambers cX3_fillChambers 5 none (d + 3) kE0 3 [some (.ref 45), some (.ref 2), some (.int f2), some (.int f3), some (.int x4)] [] τ (k_pv post) := by
  intro n
  induction n with
  | zero => intro x4 τ h; exact h.elim
  | succ n ih =>
    intro x4 τ h
    unfold L_X3_fillChambers_3 at h
    refine v_iload dX3_fillChambers_3 rfl ?_
    refine v_aload_n dX3_fillChambers_5 rfl rfl ?_
    refine u_geti fX3_45 dX3_fillChambers_6 sh_45 rfl (by decide) ?_
    refine v_icmp_ge (tgt := 43) dX3_fillChambers_9 (by decide) (fun c1 => ?_) (fun c1 => ?_)
    · have h := h.1 c1
      exact hK x4 _ h
    · have h := h.2 c1
      refine v_aload_n dX3_fillChambers_12 rfl rfl ?_
      refine v_iload_n dX3_fillChambers_13 rfl rfl ?_
      refine v_iload dX3_fillChambers_14 rfl ?_
      refine v_aload_n dX3_fillChambers_16 rfl rfl ?_
      refine u_getr fX3_36 dX3_fillChambers_17 sh_45 rfl (by decide) (rf_45_15 _) ?_
      refine v_aload_n dX3_fillChambers_20 rfl rfl ?_
      refine u_geti fX3_79 dX3_fillChambers_21 sh_45 rfl (by decide) ?_
      refine v_iconst (v := 1) dX3_fillChambers_24 (by decide) ?_
      refine v_isub dX3_fillChambers_25 ?_
      obtain ⟨j2, e_j2, l_j2, h⟩ := h
      refine u_aald dX3_fillChambers_26 (by decide) e_j2 l_j2 ?_
      refine v_iload_n dX3_fillChambers_27 rfl rfl ?_
      refine v_iconst (v := 5) dX3_fillChambers_28 (by decide) ?_
      refine v_imul dX3_fillChambers_29 ?_
      refine v_iload dX3_fillChambers_30 rfl ?_
      refine v_iadd dX3_fillChambers_32 ?_
      obtain ⟨j3, e_j3, l_j3, h⟩ := h
      refine u_iald dX3_fillChambers_33 (k_53_sh (by assumption)) (show _ < 80 by omega) (by decide) e_j3 l_j3 ?_
      refine u_callV [.int f2, .int x4, .int (q_i τ (53 + j2) j3)] mX4_setHeights iX4_setHeights lX3_151 dX3_fillChambers_34 sh_2 rfl rfl (by decide) ⟨rfl, rfl, id⟩ rfl rfl (Nat.le_of_ble_eq_true rfl) (Nat.le_of_ble_eq_true rfl) (v_X4_setHeights f2 x4 (q_i τ (53 + j2) j3) _ _ h) ?_
      rintro _ τ5 ⟨rfl, h⟩
      obtain ⟨v6, e_v6⟩ : ∃ z : Int32, z = x4 + (1 : Int32) := ⟨_, rfl⟩
      have h := h v6 e_v6
      refine v_iinc (v := v6) dX3_fillChambers_37 rfl (by rw [e_v6]; rfl) (by decide) rfl ?_
      refine v_ls (ls2 := [some (.ref 45), some (.ref 2), some (.int f2), some (.int f3), some (.int v6)]) rfl ?_
      refine v_goto (tgt := 3) dX3_fillChambers_40 (by decide) ?_
      exact ih v6 _ h
set_option maxRecDepth 100000 in
set_option maxHeartbeats 4000000 in
theorem v_X3_fillChambers {d : Nat}  (a1 : Int32) (a2 : Int32) (τ : kT) (post : kT → Prop) (h : T_X3_fillChambers  a1 a2 τ post) : U yX3_fillChambers cX3_fillChambers 5 none (d + 3) kE0 0 [some (.ref 45), some (.ref 2), some (.int a1), some (.int a2), none] [] τ (k_pv post) := by
  unfold T_X3_fillChambers at h
  refine v_iconst (v := 0) dX3_fillChambers_0 (by decide) ?_
  refine v_istore dX3_fillChambers_1 (by decide) rfl ?_
  refine v_ls (ls2 := [some (.ref 45), some (.ref 2), some (.int a1), some (.int a2), some (.int (0 : Int32))]) rfl ?_
  obtain ⟨m7, h⟩ := h
  refine l_X3_fillChambers_3  a1 a2 (fun v8 τ9 h => ?_) m7 (0 : Int32) _ h
  exact u_vret dX3_fillChambers_43 ⟨rfl, id⟩ h
def L_X3_carryOut_33  (f2 : Int32) (f3 : Int32) (K : Int32 → kT → Prop) (post : kT → Prop) : Nat → Int32 → kT → Prop
  | 0, _, _ => False
  | n + 1, x4, τ => (((q_i τ 45 3) ≤ x4 → K x4 τ) ∧ (¬ (q_i τ 45 3) ≤ x4 → (∃ j7 : Nat, ((f3 * (5 : Int32)) + x4) = nI j7 ∧ j7 < 30 ∧ (T_X5_setCut f3 x4 (q_i τ 51 j7) τ (fun τ9 => (∀ v10 : Int32, v10 = x4 + (1 : Int32) → L_X3_carryOut_33 f2 f3 K post n v10 τ9))))))
def L_X3_carryOut_2   (K : Int32 → kT → Prop) (post : kT → Prop) : Nat → Int32 → kT → Prop
  | 0, _, _ => False
  | n + 1, x2, τ => (((q_i τ 45 6) ≤ x2 → K x2 τ) ∧ (¬ (q_i τ 45 6) ≤ x2 → (∃ j2 : Nat, x2 = nI j2 ∧ j2 < 6 ∧ (∀ v3 : Int32, v3 = (q_i τ 46 j2) → (∃ j4 : Nat, v3 = nI j4 ∧ j4 < 100 ∧ (∀ τ5 : kT, τ5 = q_si τ 10 j4 (q_i τ 45 3) → (∃ m11 : Nat, L_X3_carryOut_33  x2 v3 (fun v12 τ13 => (∀ v14 : Int32, v14 = x2 + (1 : Int32) → L_X3_carryOut_2  K post n v14 τ13)) post m11 (0 : Int32) τ5)))))))
def L_X3_carryOut_77   (K : Int32 → kT → Prop) (post : kT → Prop) : Nat → Int32 → kT → Prop
  | 0, _, _ => False
  | n + 1, x2, τ => (((q_i τ 45 2) ≤ x2 → K x2 τ) ∧ (¬ (q_i τ 45 2) ≤ x2 → (T_X3_isOpened x2 τ (fun r19 τ20 => ((r19 = 0 → (∀ v22 : Int32, v22 = x2 + (1 : Int32) → L_X3_carryOut_77  K post n v22 τ20)) ∧ (¬ r19 = 0 → (∃ j23 : Nat, x2 = nI j23 ∧ j23 < 40 ∧ (T_X3_fillChambers (q_i τ20 19 j23) x2 τ20 (fun τ25 => (∀ v26 : Int32, v26 = x2 + (1 : Int32) → L_X3_carryOut_77  K post n v26 τ25))))))))))
def T_X3_carryOut  (τ : kT) (post : kT → Prop) : Prop := (∃ m15 : Nat, L_X3_carryOut_2   (fun v16 τ17 => (∃ m27 : Nat, L_X3_carryOut_77   (fun v28 τ29 => post τ29) post m27 (0 : Int32) τ17)) post m15 (0 : Int32) τ)
set_option maxRecDepth 100000 in
set_option maxHeartbeats 4000000 in
theorem l_X3_carryOut_33 {d : Nat}  (f2 : Int32) (f3 : Int32) {K : Int32 → kT → Prop} {post : kT → Prop} (hK : ∀ (x4 : Int32) (τ : kT), K x4 τ → U yX3_carryOut cX3_carryOut 5 none (d + 4) kE0 69 [some (.ref 45), some (.ref 1), some (.int f2), some (.int f3), some (.int x4)] [] τ (k_pv post)) : ∀ (n : Nat) (x4 : Int32) (τ : kT), L_X3_carryOut_33  f2 f3 K post n x4 τ → U yX3_carryOut cX3_carryOut 5 none (d + 4) kE0 33 [some (.ref 45), some (.ref 1), some (.int f2), some (.int f3), some (.int x4)] [] τ (k_pv post) := by
  intro n
  induction n with
  | zero => intro x4 τ h; exact h.elim
  | succ n ih =>
    intro x4 τ h
    unfold L_X3_carryOut_33 at h
    refine v_iload dX3_carryOut_33 rfl ?_
    refine v_aload_n dX3_carryOut_35 rfl rfl ?_
    refine u_geti fX3_45 dX3_carryOut_36 sh_45 rfl (by decide) ?_
    refine v_icmp_ge (tgt := 69) dX3_carryOut_39 (by decide) (fun c6 => ?_) (fun c6 => ?_)
    · have h := h.1 c6
      exact hK x4 _ h
    · have h := h.2 c6
      refine v_aload_n dX3_carryOut_42 rfl rfl ?_
      refine u_getr fX3_137 dX3_carryOut_43 sh_1 rfl (by decide) (rf_1_1 _) ?_
      refine v_iload_n dX3_carryOut_46 rfl rfl ?_
      refine v_iload dX3_carryOut_47 rfl ?_
      refine v_aload_n dX3_carryOut_49 rfl rfl ?_
      refine u_getr fX3_31 dX3_carryOut_50 sh_45 rfl (by decide) (rf_45_14 _) ?_
      refine v_iload_n dX3_carryOut_53 rfl rfl ?_
      refine v_iconst (v := 5) dX3_carryOut_54 (by decide) ?_
      refine v_imul dX3_carryOut_55 ?_
      refine v_iload dX3_carryOut_56 rfl ?_
      refine v_iadd dX3_carryOut_58 ?_
      obtain ⟨j7, e_j7, l_j7, h⟩ := h
      refine u_iald dX3_carryOut_59 sh_51 (by decide) (by decide) e_j7 l_j7 ?_
      refine u_callV [.int f3, .int x4, .int (q_i τ 51 j7)] mX5_setCut iX5_setCut lX3_143 dX3_carryOut_60 sh_9 rfl rfl (by decide) ⟨rfl, rfl, id⟩ rfl rfl (Nat.le_of_ble_eq_true rfl) (Nat.le_of_ble_eq_true rfl) (v_X5_setCut f3 x4 (q_i τ 51 j7) _ _ h) ?_
      rintro _ τ9 ⟨rfl, h⟩
      obtain ⟨v10, e_v10⟩ : ∃ z : Int32, z = x4 + (1 : Int32) := ⟨_, rfl⟩
      have h := h v10 e_v10
      refine v_iinc (v := v10) dX3_carryOut_63 rfl (by rw [e_v10]; rfl) (by decide) rfl ?_
      refine v_ls (ls2 := [some (.ref 45), some (.ref 1), some (.int f2), some (.int f3), some (.int v10)]) rfl ?_
      refine v_goto (tgt := 33) dX3_carryOut_66 (by decide) ?_
      exact ih v10 _ h
set_option maxRecDepth 100000 in
set_option maxHeartbeats 4000000 in
theorem l_X3_carryOut_2 {d : Nat}   {K : Int32 → kT → Prop} {post : kT → Prop} (hK : ∀ (x2 : Int32) (τ : kT), K x2 τ → U yX3_carryOut cX3_carryOut 5 none (d + 4) kE0 75 [some (.ref 45), some (.ref 1), some (.int x2), none, none] [] τ (k_pv post)) : ∀ (n : Nat) (x2 : Int32) (τ : kT), L_X3_carryOut_2   K post n x2 τ → U yX3_carryOut cX3_carryOut 5 none (d + 4) kE0 2 [some (.ref 45), some (.ref 1), some (.int x2), none, none] [] τ (k_pv post) := by
  intro n
  induction n with
  | zero => intro x2 τ h; exact h.elim
  | succ n ih =>
    intro x2 τ h
    unfold L_X3_carryOut_2 at h
    refine v_iload_n dX3_carryOut_2 rfl rfl ?_
    refine v_aload_n dX3_carryOut_3 rfl rfl ?_
    refine u_geti fX3_79 dX3_carryOut_4 sh_45 rfl (by decide) ?_
    refine v_icmp_ge (tgt := 75) dX3_carryOut_7 (by decide) (fun c1 => ?_) (fun c1 => ?_)
    · have h := h.1 c1
      exact hK x2 _ h
    · have h := h.2 c1
      refine v_aload_n dX3_carryOut_10 rfl rfl ?_
      refine u_getr fX3_15 dX3_carryOut_11 sh_45 rfl (by decide) (rf_45_5 _) ?_
      refine v_iload_n dX3_carryOut_14 rfl rfl ?_
      obtain ⟨j2, e_j2, l_j2, h⟩ := h
      refine u_iald dX3_carryOut_15 sh_46 (by decide) (by decide) e_j2 l_j2 ?_
      refine v_topi (fun v3 e_v3 => ?_)
      have h := h v3 e_v3
      refine v_istore_n dX3_carryOut_16 rfl (by decide) rfl ?_
      refine v_ls (ls2 := [some (.ref 45), some (.ref 1), some (.int x2), some (.int v3), none]) rfl ?_
      refine v_aload_n dX3_carryOut_17 rfl rfl ?_
      refine u_getr fX3_137 dX3_carryOut_18 sh_1 rfl (by decide) (rf_1_1 _) ?_
      refine u_getr fX3_140 dX3_carryOut_21 sh_9 rfl (by decide) (rf_9_0 _) ?_
      refine v_iload_n dX3_carryOut_24 rfl rfl ?_
      refine v_aload_n dX3_carryOut_25 rfl rfl ?_
      refine u_geti fX3_45 dX3_carryOut_26 sh_45 rfl (by decide) ?_
      obtain ⟨j4, e_j4, l_j4, h⟩ := h
      refine u_iast dX3_carryOut_29 sh_10 (by decide) (by decide) e_j4 l_j4 (fun τ5 e_τ5 => ?_)
      have h := h τ5 e_τ5
      refine v_iconst (v := 0) dX3_carryOut_30 (by decide) ?_
      refine v_istore dX3_carryOut_31 (by decide) rfl ?_
      refine v_ls (ls2 := [some (.ref 45), some (.ref 1), some (.int x2), some (.int v3), some (.int (0 : Int32))]) rfl ?_
      obtain ⟨m11, h⟩ := h
      refine l_X3_carryOut_33  x2 v3 (fun v12 τ13 h => ?_) m11 (0 : Int32) _ h
      obtain ⟨v14, e_v14⟩ : ∃ z : Int32, z = x2 + (1 : Int32) := ⟨_, rfl⟩
      have h := h v14 e_v14
      refine v_iinc (v := v14) dX3_carryOut_69 rfl (by rw [e_v14]; rfl) (by decide) rfl ?_
      refine v_ls (ls2 := [some (.ref 45), some (.ref 1), some (.int v14), some (.int v3), some (.int v12)]) rfl ?_
      refine v_goto (tgt := 2) dX3_carryOut_72 (by decide) ?_
      refine v_none 3 ?_
      refine v_ls (ls2 := [some (.ref 45), some (.ref 1), some (.int v14), none, some (.int v12)]) rfl ?_
      refine v_none 4 ?_
      refine v_ls (ls2 := [some (.ref 45), some (.ref 1), some (.int v14), none, none]) rfl ?_
      exact ih v14 _ h
set_option maxRecDepth 100000 in
set_option maxHeartbeats 4000000 in
theorem l_X3_carryOut_77 {d : Nat}   {K : Int32 → kT → Prop} {post : kT → Prop} (hK : ∀ (x2 : Int32) (τ : kT), K x2 τ → U yX3_carryOut cX3_carryOut 5 none (d + 4) kE0 114 [some (.ref 45), some (.ref 1), some (.int x2), none, none] [] τ (k_pv post)) : ∀ (n : Nat) (x2 : Int32) (τ : kT), L_X3_carryOut_77   K post n x2 τ → U yX3_carryOut cX3_carryOut 5 none (d + 4) kE0 77 [some (.ref 45), some (.ref 1), some (.int x2), none, none] [] τ (k_pv post) := by
  intro n
  induction n with
  | zero => intro x2 τ h; exact h.elim
  | succ n ih =>
    intro x2 τ h
    unfold L_X3_carryOut_77 at h
    refine v_iload_n dX3_carryOut_77 rfl rfl ?_
    refine v_aload_n dX3_carryOut_78 rfl rfl ?_
    refine u_geti fX3_42 dX3_carryOut_79 sh_45 rfl (by decide) ?_
    refine v_icmp_ge (tgt := 114) dX3_carryOut_82 (by decide) (fun c18 => ?_) (fun c18 => ?_)
    · have h := h.1 c18
      exact hK x2 _ h
    · have h := h.2 c18
      refine v_aload_n dX3_carryOut_85 rfl rfl ?_
      refine v_iload_n dX3_carryOut_86 rfl rfl ?_
      refine u_callV [.int x2] mX3_isOpened iX3_isOpened lX3_134 dX3_carryOut_87 sh_45 rfl rfl (by decide) ⟨rfl, rfl, id⟩ rfl rfl (Nat.le_of_ble_eq_true rfl) (Nat.le_of_ble_eq_true rfl) (v_X3_isOpened x2 _ _ h) ?_
      rintro _ τ20 ⟨r19, rfl, h⟩
      refine v_if_eq (tgt := 108) dX3_carryOut_90 (by decide) (fun c21 => ?_) (fun c21 => ?_)
      · have h := h.1 c21
        obtain ⟨v22, e_v22⟩ : ∃ z : Int32, z = x2 + (1 : Int32) := ⟨_, rfl⟩
        have h := h v22 e_v22
        refine v_iinc (v := v22) dX3_carryOut_108 rfl (by rw [e_v22]; rfl) (by decide) rfl ?_
        refine v_ls (ls2 := [some (.ref 45), some (.ref 1), some (.int v22), none, none]) rfl ?_
        refine v_goto (tgt := 77) dX3_carryOut_111 (by decide) ?_
        exact ih v22 _ h
      · have h := h.2 c21
        refine v_aload_n dX3_carryOut_93 rfl rfl ?_
        refine v_aload_n dX3_carryOut_94 rfl rfl ?_
        refine u_getr fX3_59 dX3_carryOut_95 sh_1 rfl (by decide) (rf_1_0 _) ?_
        refine v_aload_n dX3_carryOut_98 rfl rfl ?_
        refine u_getr fX3_54 dX3_carryOut_99 sh_1 rfl (by decide) (rf_1_3 _) ?_
        refine v_iload_n dX3_carryOut_102 rfl rfl ?_
        obtain ⟨j23, e_j23, l_j23, h⟩ := h
        refine u_iald dX3_carryOut_103 sh_19 (by decide) (by decide) e_j23 l_j23 ?_
        refine v_iload_n dX3_carryOut_104 rfl rfl ?_
        refine u_callV [.ref 2, .int (q_i τ20 19 j23), .int x2] mX3_fillChambers iX3_fillChambers lX3_147 dX3_carryOut_105 sh_45 rfl rfl (by decide) ⟨rfl, rfl, id⟩ rfl rfl (Nat.le_of_ble_eq_true rfl) (Nat.le_of_ble_eq_true rfl) (v_X3_fillChambers (q_i τ20 19 j23) x2 _ _ h) ?_
        rintro _ τ25 ⟨rfl, h⟩
        obtain ⟨v26, e_v26⟩ : ∃ z : Int32, z = x2 + (1 : Int32) := ⟨_, rfl⟩
        have h := h v26 e_v26
        refine v_iinc (v := v26) dX3_carryOut_108 rfl (by rw [e_v26]; rfl) (by decide) rfl ?_
        refine v_ls (ls2 := [some (.ref 45), some (.ref 1), some (.int v26), none, none]) rfl ?_
        refine v_goto (tgt := 77) dX3_carryOut_111 (by decide) ?_
        exact ih v26 _ h
set_option maxRecDepth 100000 in
set_option maxHeartbeats 4000000 in
theorem v_X3_carryOut {d : Nat}   (τ : kT) (post : kT → Prop) (h : T_X3_carryOut   τ post) : U yX3_carryOut cX3_carryOut 5 none (d + 4) kE0 0 [some (.ref 45), some (.ref 1), none, none, none] [] τ (k_pv post) := by
  unfold T_X3_carryOut at h
  refine v_iconst (v := 0) dX3_carryOut_0 (by decide) ?_
  refine v_istore_n dX3_carryOut_1 rfl (by decide) rfl ?_
  refine v_ls (ls2 := [some (.ref 45), some (.ref 1), some (.int (0 : Int32)), none, none]) rfl ?_
  obtain ⟨m15, h⟩ := h
  refine l_X3_carryOut_2   (fun v16 τ17 h => ?_) m15 (0 : Int32) _ h
  refine v_iconst (v := 0) dX3_carryOut_75 (by decide) ?_
  refine v_istore_n dX3_carryOut_76 rfl (by decide) rfl ?_
  refine v_ls (ls2 := [some (.ref 45), some (.ref 1), some (.int (0 : Int32)), none, none]) rfl ?_
  obtain ⟨m27, h⟩ := h
  refine l_X3_carryOut_77   (fun v28 τ29 h => ?_) m27 (0 : Int32) _ h
  exact u_vret dX3_carryOut_114 ⟨rfl, id⟩ h
def T_X7_begin_43  (τ : kT) (post : kT → Prop) : Prop := (∀ τ1 : kT, τ1 = q_si τ 43 1 (0 : Int32) → post τ1)
set_option maxRecDepth 100000 in
set_option maxHeartbeats 4000000 in
theorem v_X7_begin_43 {d : Nat}   (τ : kT) (post : kT → Prop) (h : T_X7_begin_43   τ post) : U yX7_begin cX7_begin 1 none (d + 0) kE0 0 [some (.ref 43)] [] τ (k_pv post) := by
  unfold T_X7_begin_43 at h
  refine v_aload_n dX7_begin_0 rfl rfl ?_
  refine v_iconst (v := 0) dX7_begin_1 (by decide) ?_
  refine u_puti pX7_15 ⟨_, rfl⟩ dX7_begin_2 sh_43 rfl (by decide) (by decide) (fun τ1 e_τ1 => ?_)
  have h := h τ1 e_τ1
  exact u_vret dX7_begin_5 ⟨rfl, id⟩ h
def T_X8_begin_42  (τ : kT) (post : kT → Prop) : Prop := (T_X7_begin_43  τ (fun τ2 => (∀ τ3 : kT, τ3 = q_si τ2 42 1 (-1 : Int32) → post τ3)))
set_option maxRecDepth 100000 in
set_option maxHeartbeats 4000000 in
theorem v_X8_begin_42 {d : Nat}   (τ : kT) (post : kT → Prop) (h : T_X8_begin_42   τ post) : U yX8_begin cX8_begin 1 none (d + 1) kE0 0 [some (.ref 42)] [] τ (k_pv post) := by
  unfold T_X8_begin_42 at h
  refine v_aload_n dX8_begin_0 rfl rfl ?_
  refine u_getr fX8_12 dX8_begin_1 sh_42 rfl (by decide) (rf_42_0 _) ?_
  refine u_callV [] mX7_begin iX7_begin lX8_22 dX8_begin_4 sh_43 rfl rfl (by decide) ⟨rfl, rfl, id⟩ rfl rfl (Nat.le_of_ble_eq_true rfl) (Nat.le_of_ble_eq_true rfl) (v_X7_begin_43  _ _ h) ?_
  rintro _ τ2 ⟨rfl, h⟩
  refine v_aload_n dX8_begin_7 rfl rfl ?_
  refine v_iconst (v := -1) dX8_begin_8 (by decide) ?_
  refine u_puti pX8_18 ⟨_, rfl⟩ dX8_begin_9 sh_42 rfl (by decide) (by decide) (fun τ3 e_τ3 => ?_)
  have h := h τ3 e_τ3
  exact u_vret dX8_begin_12 ⟨rfl, id⟩ h
def T_X7_add_43 (a1 : Int32) (τ : kT) (post : kT → Prop) : Prop := (((40 : Int32) ≤ (q_i τ 43 1) → (∀ τ2 : kT, τ2 = q_si τ 43 1 ((q_i τ 43 1) + (1 : Int32)) → post τ2)) ∧ (¬ (40 : Int32) ≤ (q_i τ 43 1) → (∃ j3 : Nat, (q_i τ 43 1) = nI j3 ∧ j3 < 40 ∧ (∀ τ4 : kT, τ4 = q_si τ 44 j3 a1 → (∀ τ5 : kT, τ5 = q_si τ4 43 1 ((q_i τ4 43 1) + (1 : Int32)) → post τ5)))))
set_option maxRecDepth 100000 in
set_option maxHeartbeats 4000000 in
theorem v_X7_add_43 {d : Nat}  (a1 : Int32) (τ : kT) (post : kT → Prop) (h : T_X7_add_43  a1 τ post) : U yX7_add cX7_add 2 none (d + 0) kE0 0 [some (.ref 43), some (.int a1)] [] τ (k_pv post) := by
  unfold T_X7_add_43 at h
  refine v_aload_n dX7_add_0 rfl rfl ?_
  refine u_geti fX7_15 dX7_add_1 sh_43 rfl (by decide) ?_
  refine v_bipush (v := 40) dX7_add_4 (by decide) ?_
  refine v_icmp_ge (tgt := 19) dX7_add_6 (by decide) (fun c1 => ?_) (fun c1 => ?_)
  · have h := h.1 c1
    refine v_aload_n dX7_add_19 rfl rfl ?_
    refine v_dup dX7_add_20 rfl ?_
    refine u_geti fX7_15 dX7_add_21 sh_43 rfl (by decide) ?_
    refine v_iconst (v := 1) dX7_add_24 (by decide) ?_
    refine v_iadd dX7_add_25 ?_
    refine u_puti pX7_15 ⟨_, rfl⟩ dX7_add_26 sh_43 rfl (by decide) (by decide) (fun τ2 e_τ2 => ?_)
    have h := h τ2 e_τ2
    exact u_vret dX7_add_29 ⟨rfl, id⟩ h
  · have h := h.2 c1
    refine v_aload_n dX7_add_9 rfl rfl ?_
    refine u_getr fX7_9 dX7_add_10 sh_43 rfl (by decide) (rf_43_0 _) ?_
    refine v_aload_n dX7_add_13 rfl rfl ?_
    refine u_geti fX7_15 dX7_add_14 sh_43 rfl (by decide) ?_
    refine v_iload_n dX7_add_17 rfl rfl ?_
    obtain ⟨j3, e_j3, l_j3, h⟩ := h
    refine u_iast dX7_add_18 sh_44 (by decide) (by decide) e_j3 l_j3 (fun τ4 e_τ4 => ?_)
    have h := h τ4 e_τ4
    refine v_aload_n dX7_add_19 rfl rfl ?_
    refine v_dup dX7_add_20 rfl ?_
    refine u_geti fX7_15 dX7_add_21 sh_43 rfl (by decide) ?_
    refine v_iconst (v := 1) dX7_add_24 (by decide) ?_
    refine v_iadd dX7_add_25 ?_
    refine u_puti pX7_15 ⟨_, rfl⟩ dX7_add_26 sh_43 rfl (by decide) (by decide) (fun τ5 e_τ5 => ?_)
    have h := h τ5 e_τ5
    exact u_vret dX7_add_29 ⟨rfl, id⟩ h
def L_X8_tryRow_42_25  (f2 : Int32) (f3 : Int32) (f4 : Int32) (f5 : Int32) (f6 : Int32) (K : Int32 → kT → Prop) (post : Int32 → kT → Prop) : Nat → Int32 → kT → Prop
  | 0, _, _ => False
  | n + 1, x7, τ => ((f5 ≤ x7 → K x7 τ) ∧ (¬ f5 ≤ x7 → (∃ j6 : Nat, ((f3 * (18 : Int32)) + x7) = nI j6 ∧ j6 < 1800 ∧ (∀ v7 : Int32, v7 = (q_i τ 5 j6) → ((¬ v7 = 0 → ((x7 < f6 → (∃ j10 : Nat, ((f2 * (18 : Int32)) + x7) = nI j10 ∧ j10 < 1800 ∧ ((¬ (v7 &&& ((1 : Int32) <<< ((q_i τ 11 j10) &&& 31))) = 0 → (∀ v12 : Int32, v12 = x7 + (1 : Int32) → L_X8_tryRow_42_25 f2 f3 f4 f5 f6 K post n v12 τ)) ∧ ((v7 &&& ((1 : Int32) <<< ((q_i τ 11 j10) &&& 31))) = 0 → (∀ τ13 : kT, τ13 = q_si τ 42 1 (f4 + x7) → post (0 : Int32) τ13))))) ∧ (¬ x7 < f6 → (∀ τ14 : kT, τ14 = q_si τ 42 1 (f4 + x7) → post (-12 : Int32) τ14)))) ∧ (v7 = 0 → (∀ v15 : Int32, v15 = x7 + (1 : Int32) → L_X8_tryRow_42_25 f2 f3 f4 f5 f6 K post n v15 τ)))))))
def T_X8_tryRow_42 (a1 : Int32) (a2 : Int32) (a3 : Int32) (τ : kT) (post : Int32 → kT → Prop) : Prop := (∃ j1 : Nat, a2 = nI j1 ∧ j1 < 100 ∧ (∀ v2 : Int32, v2 = (q_i τ 4 j1) → (∃ j3 : Nat, a1 = nI j3 ∧ j3 < 100 ∧ (∀ v4 : Int32, v4 = (q_i τ 10 j3) → (∃ m16 : Nat, L_X8_tryRow_42_25  a1 a2 a3 v2 v4 (fun v17 τ18 => post (1 : Int32) τ18) post m16 (0 : Int32) τ)))))
set_option maxRecDepth 100000 in
set_option maxHeartbeats 4000000 in
theorem l_X8_tryRow_42_25 {d : Nat}  (f2 : Int32) (f3 : Int32) (f4 : Int32) (f5 : Int32) (f6 : Int32) {K : Int32 → kT → Prop} {post : Int32 → kT → Prop} (hK : ∀ (x7 : Int32) (τ : kT), K x7 τ → U yX8_tryRow cX8_tryRow 9 (some .int) (d + 0) kE0 116 [some (.ref 42), some (.ref 1), some (.int f2), some (.int f3), some (.int f4), some (.int f5), some (.int f6), some (.int x7), none] [] τ (k_pi post)) : ∀ (n : Nat) (x7 : Int32) (τ : kT), L_X8_tryRow_42_25  f2 f3 f4 f5 f6 K post n x7 τ → U yX8_tryRow cX8_tryRow 9 (some .int) (d + 0) kE0 25 [some (.ref 42), some (.ref 1), some (.int f2), some (.int f3), some (.int f4), some (.int f5), some (.int f6), some (.int x7), none] [] τ (k_pi post) := by
  intro n
  induction n with
  | zero => intro x7 τ h; exact h.elim
  | succ n ih =>
    intro x7 τ h
    unfold L_X8_tryRow_42_25 at h
    refine v_iload dX8_tryRow_25 rfl ?_
    refine v_iload dX8_tryRow_27 rfl ?_
    refine v_icmp_ge (tgt := 116) dX8_tryRow_29 (by decide) (fun c5 => ?_) (fun c5 => ?_)
    · have h := h.1 c5
      exact hK x7 _ h
    · have h := h.2 c5
      refine v_aload_n dX8_tryRow_32 rfl rfl ?_
      refine u_getr fX8_25 dX8_tryRow_33 sh_1 rfl (by decide) (rf_1_0 _) ?_
      refine u_getr fX8_80 dX8_tryRow_36 sh_2 rfl (by decide) (rf_2_2 _) ?_
      refine v_iload_n dX8_tryRow_39 rfl rfl ?_
      refine v_bipush (v := 18) dX8_tryRow_40 (by decide) ?_
      refine v_imul dX8_tryRow_42 ?_
      refine v_iload dX8_tryRow_43 rfl ?_
      refine v_iadd dX8_tryRow_45 ?_
      obtain ⟨j6, e_j6, l_j6, h⟩ := h
      refine u_iald dX8_tryRow_46 sh_5 (by decide) (by decide) e_j6 l_j6 ?_
      refine v_topi (fun v7 e_v7 => ?_)
      have h := h v7 e_v7
      refine v_istore dX8_tryRow_47 (by decide) rfl ?_
      refine v_ls (ls2 := [some (.ref 42), some (.ref 1), some (.int f2), some (.int f3), some (.int f4), some (.int f5), some (.int f6), some (.int x7), some (.int v7)]) rfl ?_
      refine v_iload dX8_tryRow_49 rfl ?_
      refine v_if_ne (tgt := 57) dX8_tryRow_51 (by decide) (fun c8 => ?_) (fun c8 => ?_)
      · have h := h.1 c8
        refine v_iload dX8_tryRow_57 rfl ?_
        refine v_iload dX8_tryRow_59 rfl ?_
        refine v_icmp_lt (tgt := 76) dX8_tryRow_61 (by decide) (fun c9 => ?_) (fun c9 => ?_)
        · have h := h.1 c9
          refine v_iload dX8_tryRow_76 rfl ?_
          refine v_iconst (v := 1) dX8_tryRow_78 (by decide) ?_
          refine v_aload_n dX8_tryRow_79 rfl rfl ?_
          refine u_getr fX8_71 dX8_tryRow_80 sh_1 rfl (by decide) (rf_1_1 _) ?_
          refine u_getr fX8_83 dX8_tryRow_83 sh_9 rfl (by decide) (rf_9_1 _) ?_
          refine v_iload_n dX8_tryRow_86 rfl rfl ?_
          refine v_bipush (v := 18) dX8_tryRow_87 (by decide) ?_
          refine v_imul dX8_tryRow_89 ?_
          refine v_iload dX8_tryRow_90 rfl ?_
          refine v_iadd dX8_tryRow_92 ?_
          obtain ⟨j10, e_j10, l_j10, h⟩ := h
          refine u_iald dX8_tryRow_93 sh_11 (by decide) (by decide) e_j10 l_j10 ?_
          refine v_ishl dX8_tryRow_94 ?_
          refine v_iand dX8_tryRow_95 ?_
          refine v_if_ne (tgt := 110) dX8_tryRow_96 (by decide) (fun c11 => ?_) (fun c11 => ?_)
          · have h := h.1 c11
            obtain ⟨v12, e_v12⟩ : ∃ z : Int32, z = x7 + (1 : Int32) := ⟨_, rfl⟩
            have h := h v12 e_v12
            refine v_iinc (v := v12) dX8_tryRow_110 rfl (by rw [e_v12]; rfl) (by decide) rfl ?_
            refine v_ls (ls2 := [some (.ref 42), some (.ref 1), some (.int f2), some (.int f3), some (.int f4), some (.int f5), some (.int f6), some (.int v12), some (.int v7)]) rfl ?_
            refine v_goto (tgt := 25) dX8_tryRow_113 (by decide) ?_
            refine v_none 8 ?_
            refine v_ls (ls2 := [some (.ref 42), some (.ref 1), some (.int f2), some (.int f3), some (.int f4), some (.int f5), some (.int f6), some (.int v12), none]) rfl ?_
            exact ih v12 _ h
          · have h := h.2 c11
            refine v_aload_n dX8_tryRow_99 rfl rfl ?_
            refine v_iload dX8_tryRow_100 rfl ?_
            refine v_iload dX8_tryRow_102 rfl ?_
            refine v_iadd dX8_tryRow_104 ?_
            refine u_puti pX8_18 ⟨_, rfl⟩ dX8_tryRow_105 sh_42 rfl (by decide) (by decide) (fun τ13 e_τ13 => ?_)
            have h := h τ13 e_τ13
            refine v_iconst (v := 0) dX8_tryRow_108 (by decide) ?_
            exact u_iret dX8_tryRow_109 ⟨rfl, id⟩ h
        · have h := h.2 c9
          refine v_aload_n dX8_tryRow_64 rfl rfl ?_
          refine v_iload dX8_tryRow_65 rfl ?_
          refine v_iload dX8_tryRow_67 rfl ?_
          refine v_iadd dX8_tryRow_69 ?_
          refine u_puti pX8_18 ⟨_, rfl⟩ dX8_tryRow_70 sh_42 rfl (by decide) (by decide) (fun τ14 e_τ14 => ?_)
          have h := h τ14 e_τ14
          refine v_bipush (v := -12) dX8_tryRow_73 (by decide) ?_
          exact u_iret dX8_tryRow_75 ⟨rfl, id⟩ h
      · have h := h.2 c8
        refine v_goto (tgt := 110) dX8_tryRow_54 (by decide) ?_
        obtain ⟨v15, e_v15⟩ : ∃ z : Int32, z = x7 + (1 : Int32) := ⟨_, rfl⟩
        have h := h v15 e_v15
        refine v_iinc (v := v15) dX8_tryRow_110 rfl (by rw [e_v15]; rfl) (by decide) rfl ?_
        refine v_ls (ls2 := [some (.ref 42), some (.ref 1), some (.int f2), some (.int f3), some (.int f4), some (.int f5), some (.int f6), some (.int v15), some (.int v7)]) rfl ?_
        refine v_goto (tgt := 25) dX8_tryRow_113 (by decide) ?_
        refine v_none 8 ?_
        refine v_ls (ls2 := [some (.ref 42), some (.ref 1), some (.int f2), some (.int f3), some (.int f4), some (.int f5), some (.int f6), some (.int v15), none]) rfl ?_
        exact ih v15 _ h
set_option maxRecDepth 100000 in
set_option maxHeartbeats 4000000 in
theorem v_X8_tryRow_42 {d : Nat}  (a1 : Int32) (a2 : Int32) (a3 : Int32) (τ : kT) (post : Int32 → kT → Prop) (h : T_X8_tryRow_42  a1 a2 a3 τ post) : U yX8_tryRow cX8_tryRow 9 (some .int) (d + 0) kE0 0 [some (.ref 42), some (.ref 1), some (.int a1), some (.int a2), some (.int a3), none, none, none, none] [] τ (k_pi post) := by
  unfold T_X8_tryRow_42 at h
  refine v_aload_n dX8_tryRow_0 rfl rfl ?_
  refine u_getr fX8_25 dX8_tryRow_1 sh_1 rfl (by decide) (rf_1_0 _) ?_
  refine u_getr fX8_68 dX8_tryRow_4 sh_2 rfl (by decide) (rf_2_1 _) ?_
  refine v_iload_n dX8_tryRow_7 rfl rfl ?_
  obtain ⟨j1, e_j1, l_j1, h⟩ := h
  refine u_iald dX8_tryRow_8 sh_4 (by decide) (by decide) e_j1 l_j1 ?_
  refine v_topi (fun v2 e_v2 => ?_)
  have h := h v2 e_v2
  refine v_istore dX8_tryRow_9 (by decide) rfl ?_
  refine v_ls (ls2 := [some (.ref 42), some (.ref 1), some (.int a1), some (.int a2), some (.int a3), some (.int v2), none, none, none]) rfl ?_
  refine v_aload_n dX8_tryRow_11 rfl rfl ?_
  refine u_getr fX8_71 dX8_tryRow_12 sh_1 rfl (by decide) (rf_1_1 _) ?_
  refine u_getr fX8_75 dX8_tryRow_15 sh_9 rfl (by decide) (rf_9_0 _) ?_
  refine v_iload_n dX8_tryRow_18 rfl rfl ?_
  obtain ⟨j3, e_j3, l_j3, h⟩ := h
  refine u_iald dX8_tryRow_19 sh_10 (by decide) (by decide) e_j3 l_j3 ?_
  refine v_topi (fun v4 e_v4 => ?_)
  have h := h v4 e_v4
  refine v_istore dX8_tryRow_20 (by decide) rfl ?_
  refine v_ls (ls2 := [some (.ref 42), some (.ref 1), some (.int a1), some (.int a2), some (.int a3), some (.int v2), some (.int v4), none, none]) rfl ?_
  refine v_iconst (v := 0) dX8_tryRow_22 (by decide) ?_
  refine v_istore dX8_tryRow_23 (by decide) rfl ?_
  refine v_ls (ls2 := [some (.ref 42), some (.ref 1), some (.int a1), some (.int a2), some (.int a3), some (.int v2), some (.int v4), some (.int (0 : Int32)), none]) rfl ?_
  obtain ⟨m16, h⟩ := h
  refine l_X8_tryRow_42_25  a1 a2 a3 v2 v4 (fun v17 τ18 h => ?_) m16 (0 : Int32) _ h
  refine v_iconst (v := 1) dX8_tryRow_116 (by decide) ?_
  exact u_iret dX8_tryRow_117 ⟨rfl, id⟩ h
def T_X8_trySingle_42 (a1 : Int32) (a2 : Int32) (a3 : Int32) (τ : kT) (post : Int32 → kT → Prop) : Prop := (T_X4_has a2 τ (fun r1 τ2 => ((¬ r1 = 0 → (T_X4_isBlind a2 τ2 (fun r4 τ5 => ((r4 = 0 → (T_X4_isOf a2 (1 : Int32) τ5 (fun r7 τ8 => ((r7 = 0 → (T_X7_add_43 (1 : Int32) τ8 (fun τ11 => (T_X4_isOut a2 τ11 (fun r12 τ13 => ((r12 = 0 → (T_X8_tryRow_42 a1 a2 a3 τ13 (fun r15 τ16 => post r15 τ16))) ∧ (¬ r12 = 0 → post (-11 : Int32) τ13))))))) ∧ (¬ r7 = 0 → (T_X7_add_43 (2 : Int32) τ8 (fun τ18 => (T_X7_add_43 (1 : Int32) τ18 (fun τ20 => (T_X4_isOut a2 τ20 (fun r21 τ22 => ((r21 = 0 → (T_X8_tryRow_42 a1 a2 a3 τ22 (fun r24 τ25 => post r24 τ25))) ∧ (¬ r21 = 0 → post (-11 : Int32) τ22))))))))))))) ∧ (¬ r4 = 0 → (T_X7_add_43 (3 : Int32) τ5 (fun τ27 => (∀ τ28 : kT, τ28 = q_si τ27 42 1 a3 → post (0 : Int32) τ28)))))))) ∧ (r1 = 0 → post (-11 : Int32) τ2))))
set_option maxRecDepth 100000 in
set_option maxHeartbeats 4000000 in
theorem v_X8_trySingle_42 {d : Nat}  (a1 : Int32) (a2 : Int32) (a3 : Int32) (τ : kT) (post : Int32 → kT → Prop) (h : T_X8_trySingle_42  a1 a2 a3 τ post) : U yX8_trySingle cX8_trySingle 5 (some .int) (d + 2) kE0 0 [some (.ref 42), some (.ref 1), some (.int a1), some (.int a2), some (.int a3)] [] τ (k_pi post) := by
  unfold T_X8_trySingle_42 at h
  refine v_aload_n dX8_trySingle_0 rfl rfl ?_
  refine u_getr fX8_25 dX8_trySingle_1 sh_1 rfl (by decide) (rf_1_0 _) ?_
  refine v_iload_n dX8_trySingle_4 rfl rfl ?_
  refine u_callV [.int a2] mX4_has iX4_has lX8_52 dX8_trySingle_5 sh_2 rfl rfl (by decide) ⟨rfl, rfl, id⟩ rfl rfl (Nat.le_of_ble_eq_true rfl) (Nat.le_of_ble_eq_true rfl) (v_X4_has a2 _ _ h) ?_
  rintro _ τ2 ⟨r1, rfl, h⟩
  refine v_if_ne (tgt := 14) dX8_trySingle_8 (by decide) (fun c3 => ?_) (fun c3 => ?_)
  · have h := h.1 c3
    refine v_aload_n dX8_trySingle_14 rfl rfl ?_
    refine u_getr fX8_25 dX8_trySingle_15 sh_1 rfl (by decide) (rf_1_0 _) ?_
    refine v_iload_n dX8_trySingle_18 rfl rfl ?_
    refine u_callV [.int a2] mX4_isBlind iX4_isBlind lX8_55 dX8_trySingle_19 sh_2 rfl rfl (by decide) ⟨rfl, rfl, id⟩ rfl rfl (Nat.le_of_ble_eq_true rfl) (Nat.le_of_ble_eq_true rfl) (v_X4_isBlind a2 _ _ h) ?_
    rintro _ τ5 ⟨r4, rfl, h⟩
    refine v_if_eq (tgt := 41) dX8_trySingle_22 (by decide) (fun c6 => ?_) (fun c6 => ?_)
    · have h := h.1 c6
      refine v_aload_n dX8_trySingle_41 rfl rfl ?_
      refine u_getr fX8_25 dX8_trySingle_42 sh_1 rfl (by decide) (rf_1_0 _) ?_
      refine v_iload_n dX8_trySingle_45 rfl rfl ?_
      refine v_iconst (v := 1) dX8_trySingle_46 (by decide) ?_
      refine u_callV [.int a2, .int (1 : Int32)] mX4_isOf iX4_isOf lX8_58 dX8_trySingle_47 sh_2 rfl rfl (by decide) ⟨rfl, rfl, id⟩ rfl rfl (Nat.le_of_ble_eq_true rfl) (Nat.le_of_ble_eq_true rfl) (v_X4_isOf a2 (1 : Int32) _ _ h) ?_
      rintro _ τ8 ⟨r7, rfl, h⟩
      refine v_if_eq (tgt := 61) dX8_trySingle_50 (by decide) (fun c9 => ?_) (fun c9 => ?_)
      · have h := h.1 c9
        refine v_aload_n dX8_trySingle_61 rfl rfl ?_
        refine u_getr fX8_12 dX8_trySingle_62 sh_42 rfl (by decide) (rf_42_0 _) ?_
        refine v_iconst (v := 1) dX8_trySingle_65 (by decide) ?_
        refine u_callV [.int (1 : Int32)] mX7_add iX7_add lX8_41 dX8_trySingle_66 sh_43 rfl rfl (by decide) ⟨rfl, rfl, id⟩ rfl rfl (Nat.le_of_ble_eq_true rfl) (Nat.le_of_ble_eq_true rfl) (v_X7_add_43 (1 : Int32) _ _ h) ?_
        rintro _ τ11 ⟨rfl, h⟩
        refine v_aload_n dX8_trySingle_69 rfl rfl ?_
        refine u_getr fX8_25 dX8_trySingle_70 sh_1 rfl (by decide) (rf_1_0 _) ?_
        refine v_iload_n dX8_trySingle_73 rfl rfl ?_
        refine u_callV [.int a2] mX4_isOut iX4_isOut lX8_62 dX8_trySingle_74 sh_2 rfl rfl (by decide) ⟨rfl, rfl, id⟩ rfl rfl (Nat.le_of_ble_eq_true rfl) (Nat.le_of_ble_eq_true rfl) (v_X4_isOut a2 _ _ h) ?_
        rintro _ τ13 ⟨r12, rfl, h⟩
        refine v_if_eq (tgt := 83) dX8_trySingle_77 (by decide) (fun c14 => ?_) (fun c14 => ?_)
        · have h := h.1 c14
          refine v_aload_n dX8_trySingle_83 rfl rfl ?_
          refine v_aload_n dX8_trySingle_84 rfl rfl ?_
          refine v_iload_n dX8_trySingle_85 rfl rfl ?_
          refine v_iload_n dX8_trySingle_86 rfl rfl ?_
          refine v_iload dX8_trySingle_87 rfl ?_
          refine u_callV [.ref 1, .int a1, .int a2, .int a3] mX8_tryRow iX8_tryRow lX8_65 dX8_trySingle_89 sh_42 rfl rfl (by decide) ⟨rfl, rfl, id⟩ rfl rfl (Nat.le_of_ble_eq_true rfl) (Nat.le_of_ble_eq_true rfl) (v_X8_tryRow_42 a1 a2 a3 _ _ h) ?_
          rintro _ τ16 ⟨r15, rfl, h⟩
          exact u_iret dX8_trySingle_92 ⟨rfl, id⟩ h
        · have h := h.2 c14
          refine v_bipush (v := -11) dX8_trySingle_80 (by decide) ?_
          exact u_iret dX8_trySingle_82 ⟨rfl, id⟩ h
      · have h := h.2 c9
        refine v_aload_n dX8_trySingle_53 rfl rfl ?_
        refine u_getr fX8_12 dX8_trySingle_54 sh_42 rfl (by decide) (rf_42_0 _) ?_
        refine v_iconst (v := 2) dX8_trySingle_57 (by decide) ?_
        refine u_callV [.int (2 : Int32)] mX7_add iX7_add lX8_41 dX8_trySingle_58 sh_43 rfl rfl (by decide) ⟨rfl, rfl, id⟩ rfl rfl (Nat.le_of_ble_eq_true rfl) (Nat.le_of_ble_eq_true rfl) (v_X7_add_43 (2 : Int32) _ _ h) ?_
        rintro _ τ18 ⟨rfl, h⟩
        refine v_aload_n dX8_trySingle_61 rfl rfl ?_
        refine u_getr fX8_12 dX8_trySingle_62 sh_42 rfl (by decide) (rf_42_0 _) ?_
        refine v_iconst (v := 1) dX8_trySingle_65 (by decide) ?_
        refine u_callV [.int (1 : Int32)] mX7_add iX7_add lX8_41 dX8_trySingle_66 sh_43 rfl rfl (by decide) ⟨rfl, rfl, id⟩ rfl rfl (Nat.le_of_ble_eq_true rfl) (Nat.le_of_ble_eq_true rfl) (v_X7_add_43 (1 : Int32) _ _ h) ?_
        rintro _ τ20 ⟨rfl, h⟩
        refine v_aload_n dX8_trySingle_69 rfl rfl ?_
        refine u_getr fX8_25 dX8_trySingle_70 sh_1 rfl (by decide) (rf_1_0 _) ?_
        refine v_iload_n dX8_trySingle_73 rfl rfl ?_
        refine u_callV [.int a2] mX4_isOut iX4_isOut lX8_62 dX8_trySingle_74 sh_2 rfl rfl (by decide) ⟨rfl, rfl, id⟩ rfl rfl (Nat.le_of_ble_eq_true rfl) (Nat.le_of_ble_eq_true rfl) (v_X4_isOut a2 _ _ h) ?_
        rintro _ τ22 ⟨r21, rfl, h⟩
        refine v_if_eq (tgt := 83) dX8_trySingle_77 (by decide) (fun c23 => ?_) (fun c23 => ?_)
        · have h := h.1 c23
          refine v_aload_n dX8_trySingle_83 rfl rfl ?_
          refine v_aload_n dX8_trySingle_84 rfl rfl ?_
          refine v_iload_n dX8_trySingle_85 rfl rfl ?_
          refine v_iload_n dX8_trySingle_86 rfl rfl ?_
          refine v_iload dX8_trySingle_87 rfl ?_
          refine u_callV [.ref 1, .int a1, .int a2, .int a3] mX8_tryRow iX8_tryRow lX8_65 dX8_trySingle_89 sh_42 rfl rfl (by decide) ⟨rfl, rfl, id⟩ rfl rfl (Nat.le_of_ble_eq_true rfl) (Nat.le_of_ble_eq_true rfl) (v_X8_tryRow_42 a1 a2 a3 _ _ h) ?_
          rintro _ τ25 ⟨r24, rfl, h⟩
          exact u_iret dX8_trySingle_92 ⟨rfl, id⟩ h
        · have h := h.2 c23
          refine v_bipush (v := -11) dX8_trySingle_80 (by decide) ?_
          exact u_iret dX8_trySingle_82 ⟨rfl, id⟩ h
    · have h := h.2 c6
      refine v_aload_n dX8_trySingle_25 rfl rfl ?_
      refine u_getr fX8_12 dX8_trySingle_26 sh_42 rfl (by decide) (rf_42_0 _) ?_
      refine v_iconst (v := 3) dX8_trySingle_29 (by decide) ?_
      refine u_callV [.int (3 : Int32)] mX7_add iX7_add lX8_41 dX8_trySingle_30 sh_43 rfl rfl (by decide) ⟨rfl, rfl, id⟩ rfl rfl (Nat.le_of_ble_eq_true rfl) (Nat.le_of_ble_eq_true rfl) (v_X7_add_43 (3 : Int32) _ _ h) ?_
      rintro _ τ27 ⟨rfl, h⟩
      refine v_aload_n dX8_trySingle_33 rfl rfl ?_
      refine v_iload dX8_trySingle_34 rfl ?_
      refine u_puti pX8_18 ⟨_, rfl⟩ dX8_trySingle_36 sh_42 rfl (by decide) (by decide) (fun τ28 e_τ28 => ?_)
      have h := h τ28 e_τ28
      refine v_iconst (v := 0) dX8_trySingle_39 (by decide) ?_
      exact u_iret dX8_trySingle_40 ⟨rfl, id⟩ h
  · have h := h.2 c3
    refine v_bipush (v := -11) dX8_trySingle_11 (by decide) ?_
    exact u_iret dX8_trySingle_13 ⟨rfl, id⟩ h
