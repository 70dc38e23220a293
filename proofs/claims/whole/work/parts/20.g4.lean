def T_X11_areDoors (a1 : Int32) (τ : kT) (post : Int32 → kT → Prop) : Prop := ((a1 < 0 → post (0 : Int32) τ) ∧ (¬ a1 < 0 → (((31 : Int32) ≤ (q_i τ 67 8525) → post (1 : Int32) τ) ∧ (¬ (31 : Int32) ≤ (q_i τ 67 8525) → ((¬ (a1 >>> ((q_i τ 67 8525) &&& 31)) = 0 → post (0 : Int32) τ) ∧ ((a1 >>> ((q_i τ 67 8525) &&& 31)) = 0 → post (1 : Int32) τ))))))
set_option maxRecDepth 100000 in
set_option maxHeartbeats 4000000 in
theorem v_X11_areDoors {d : Nat}  (a1 : Int32) (τ : kT) (post : Int32 → kT → Prop) (h : T_X11_areDoors  a1 τ post) : U yX11_areDoors cX11_areDoors 2 (some .boolean) (d + 0) kE0 0 [some (.ref 66), some (.int a1)] [] τ (k_pi post) := by
  unfold T_X11_areDoors at h
  refine v_iload_n dX11_areDoors_0 rfl rfl ?_
  refine v_if_lt (tgt := 34) dX11_areDoors_1 (by decide) (fun c1 => ?_) (fun c1 => ?_)
  · have h := h.1 c1
    refine v_iconst (v := 0) dX11_areDoors_34 (by decide) ?_
    exact u_zret dX11_areDoors_35 rfl ⟨rfl, id⟩ h
  · have h := h.2 c1
    refine v_aload_n dX11_areDoors_4 rfl rfl ?_
    refine u_getr fX11_7 dX11_areDoors_5 sh_66 rfl (by decide) (rf_66_0 _) ?_
    refine v_sipush (v := 8525) dX11_areDoors_8 (by decide) ?_
    refine u_iald dX11_areDoors_11 sh_67 (by decide) (by decide) rfl (by decide) ?_
    refine v_bipush (v := 31) dX11_areDoors_12 (by decide) ?_
    refine v_icmp_ge (tgt := 30) dX11_areDoors_14 (by decide) (fun c2 => ?_) (fun c2 => ?_)
    · have h := h.1 c2
      refine v_iconst (v := 1) dX11_areDoors_30 (by decide) ?_
      refine v_goto (tgt := 35) dX11_areDoors_31 (by decide) ?_
      exact u_zret dX11_areDoors_35 rfl ⟨rfl, id⟩ h
    · have h := h.2 c2
      refine v_iload_n dX11_areDoors_17 rfl rfl ?_
      refine v_aload_n dX11_areDoors_18 rfl rfl ?_
      refine u_getr fX11_7 dX11_areDoors_19 sh_66 rfl (by decide) (rf_66_0 _) ?_
      refine v_sipush (v := 8525) dX11_areDoors_22 (by decide) ?_
      refine u_iald dX11_areDoors_25 sh_67 (by decide) (by decide) rfl (by decide) ?_
      refine v_ishr dX11_areDoors_26 ?_
      refine v_if_ne (tgt := 34) dX11_areDoors_27 (by decide) (fun c3 => ?_) (fun c3 => ?_)
      · have h := h.1 c3
        refine v_iconst (v := 0) dX11_areDoors_34 (by decide) ?_
        exact u_zret dX11_areDoors_35 rfl ⟨rfl, id⟩ h
      · have h := h.2 c3
        refine v_iconst (v := 1) dX11_areDoors_30 (by decide) ?_
        refine v_goto (tgt := 35) dX11_areDoors_31 (by decide) ?_
        exact u_zret dX11_areDoors_35 rfl ⟨rfl, id⟩ h
def L_X11_opened_4  (f1 : Int32) (K : Int32 → Int32 → kT → Prop) (post : Int32 → kT → Prop) : Nat → Int32 → Int32 → kT → Prop
  | 0, _, _, _ => False
  | n + 1, x2, x3, τ => (((31 : Int32) ≤ x3 → K x2 x3 τ) ∧ (¬ (31 : Int32) ≤ x3 → (((q_i τ 67 8525) ≤ x3 → K x2 x3 τ) ∧ (¬ (q_i τ 67 8525) ≤ x3 → (T_X11_would f1 x3 τ (fun r3 τ4 => ((r3 = 0 → (∀ v6 : Int32, v6 = (x2 ||| (0 : Int32)) → (∀ v7 : Int32, v7 = x3 + (1 : Int32) → L_X11_opened_4 f1 K post n v6 v7 τ4))) ∧ (¬ r3 = 0 → (∀ v8 : Int32, v8 = (x2 ||| ((1 : Int32) <<< (x3 &&& 31))) → (∀ v9 : Int32, v9 = x3 + (1 : Int32) → L_X11_opened_4 f1 K post n v8 v9 τ4))))))))))
def T_X11_opened (a1 : Int32) (τ : kT) (post : Int32 → kT → Prop) : Prop := (∃ m10 : Nat, L_X11_opened_4  a1 (fun v11 v12 τ13 => post v11 τ13) post m10 (0 : Int32) (0 : Int32) τ)
set_option maxRecDepth 100000 in
set_option maxHeartbeats 4000000 in
theorem l_X11_opened_4 {d : Nat}  (f1 : Int32) {K : Int32 → Int32 → kT → Prop} {post : Int32 → kT → Prop} (hK : ∀ (x2 : Int32) (x3 : Int32) (τ : kT), K x2 x3 τ → U yX11_opened cX11_opened 4 (some .int) (d + 5) kE0 47 [some (.ref 66), some (.int f1), some (.int x2), some (.int x3)] [] τ (k_pi post)) : ∀ (n : Nat) (x2 : Int32) (x3 : Int32) (τ : kT), L_X11_opened_4  f1 K post n x2 x3 τ → U yX11_opened cX11_opened 4 (some .int) (d + 5) kE0 4 [some (.ref 66), some (.int f1), some (.int x2), some (.int x3)] [] τ (k_pi post) := by
  intro n
  induction n with
  | zero => intro x2 x3 τ h; exact h.elim
  | succ n ih =>
    intro x2 x3 τ h
    unfold L_X11_opened_4 at h
    refine v_iload_n dX11_opened_4 rfl rfl ?_
    refine v_bipush (v := 31) dX11_opened_5 (by decide) ?_
    refine v_icmp_ge (tgt := 47) dX11_opened_7 (by decide) (fun c1 => ?_) (fun c1 => ?_)
    · have h := h.1 c1
      exact hK x2 x3 _ h
    · have h := h.2 c1
      refine v_iload_n dX11_opened_10 rfl rfl ?_
      refine v_aload_n dX11_opened_11 rfl rfl ?_
      refine u_getr fX11_7 dX11_opened_12 sh_66 rfl (by decide) (rf_66_0 _) ?_
      refine v_sipush (v := 8525) dX11_opened_15 (by decide) ?_
      refine u_iald dX11_opened_18 sh_67 (by decide) (by decide) rfl (by decide) ?_
      refine v_icmp_ge (tgt := 47) dX11_opened_19 (by decide) (fun c2 => ?_) (fun c2 => ?_)
      · have h := h.1 c2
        exact hK x2 x3 _ h
      · have h := h.2 c2
        refine v_iload_n dX11_opened_22 rfl rfl ?_
        refine v_aload_n dX11_opened_23 rfl rfl ?_
        refine v_iload_n dX11_opened_24 rfl rfl ?_
        refine v_iload_n dX11_opened_25 rfl rfl ?_
        refine u_callV [.int f1, .int x3] mX11_would iX11_would lX11_167 dX11_opened_26 sh_66 rfl rfl (by decide) ⟨rfl, rfl, id⟩ rfl rfl (Nat.le_of_ble_eq_true rfl) (Nat.le_of_ble_eq_true rfl) (v_X11_would f1 x3 _ _ h) ?_
        rintro _ τ4 ⟨r3, rfl, h⟩
        refine v_if_eq (tgt := 38) dX11_opened_29 (by decide) (fun c5 => ?_) (fun c5 => ?_)
        · have h := h.1 c5
          refine v_iconst (v := 0) dX11_opened_38 (by decide) ?_
          refine v_ior dX11_opened_39 ?_
          refine v_topi (fun v6 e_v6 => ?_)
          have h := h v6 e_v6
          refine v_istore_n dX11_opened_40 rfl (by decide) rfl ?_
          refine v_ls (ls2 := [some (.ref 66), some (.int f1), some (.int v6), some (.int x3)]) rfl ?_
          obtain ⟨v7, e_v7⟩ : ∃ z : Int32, z = x3 + (1 : Int32) := ⟨_, rfl⟩
          have h := h v7 e_v7
          refine v_iinc (v := v7) dX11_opened_41 rfl (by rw [e_v7]; rfl) (by decide) rfl ?_
          refine v_ls (ls2 := [some (.ref 66), some (.int f1), some (.int v6), some (.int v7)]) rfl ?_
          refine v_goto (tgt := 4) dX11_opened_44 (by decide) ?_
          exact ih v6 v7 _ h
        · have h := h.2 c5
          refine v_iconst (v := 1) dX11_opened_32 (by decide) ?_
          refine v_iload_n dX11_opened_33 rfl rfl ?_
          refine v_ishl dX11_opened_34 ?_
          refine v_goto (tgt := 39) dX11_opened_35 (by decide) ?_
          refine v_ior dX11_opened_39 ?_
          refine v_topi (fun v8 e_v8 => ?_)
          have h := h v8 e_v8
          refine v_istore_n dX11_opened_40 rfl (by decide) rfl ?_
          refine v_ls (ls2 := [some (.ref 66), some (.int f1), some (.int v8), some (.int x3)]) rfl ?_
          obtain ⟨v9, e_v9⟩ : ∃ z : Int32, z = x3 + (1 : Int32) := ⟨_, rfl⟩
          have h := h v9 e_v9
          refine v_iinc (v := v9) dX11_opened_41 rfl (by rw [e_v9]; rfl) (by decide) rfl ?_
          refine v_ls (ls2 := [some (.ref 66), some (.int f1), some (.int v8), some (.int v9)]) rfl ?_
          refine v_goto (tgt := 4) dX11_opened_44 (by decide) ?_
          exact ih v8 v9 _ h
set_option maxRecDepth 100000 in
set_option maxHeartbeats 4000000 in
theorem v_X11_opened {d : Nat}  (a1 : Int32) (τ : kT) (post : Int32 → kT → Prop) (h : T_X11_opened  a1 τ post) : U yX11_opened cX11_opened 4 (some .int) (d + 5) kE0 0 [some (.ref 66), some (.int a1), none, none] [] τ (k_pi post) := by
  unfold T_X11_opened at h
  refine v_iconst (v := 0) dX11_opened_0 (by decide) ?_
  refine v_istore_n dX11_opened_1 rfl (by decide) rfl ?_
  refine v_ls (ls2 := [some (.ref 66), some (.int a1), some (.int (0 : Int32)), none]) rfl ?_
  refine v_iconst (v := 0) dX11_opened_2 (by decide) ?_
  refine v_istore_n dX11_opened_3 rfl (by decide) rfl ?_
  refine v_ls (ls2 := [some (.ref 66), some (.int a1), some (.int (0 : Int32)), some (.int (0 : Int32))]) rfl ?_
  obtain ⟨m10, h⟩ := h
  refine l_X11_opened_4  a1 (fun v11 v12 τ13 h => ?_) m10 (0 : Int32) (0 : Int32) _ h
  refine v_iload_n dX11_opened_47 rfl rfl ?_
  exact u_iret dX11_opened_48 ⟨rfl, id⟩ h
def L_X11_first_29  (f1 : Int32) (f2 : Int32) (K : Int32 → kT → Prop) (post : Int32 → kT → Prop) : Nat → Int32 → kT → Prop
  | 0, _, _ => False
  | n + 1, x3, τ => ((f2 ≤ x3 → K x3 τ) ∧ (¬ f2 ≤ x3 → (T_X11_opened x3 τ (fun r3 τ4 => (∃ j5 : Nat, x3 = nI j5 ∧ j5 < 14 ∧ (∀ τ6 : kT, τ6 = q_si τ4 78 j5 (r3 &&& f1) → (∀ v7 : Int32, v7 = x3 + (1 : Int32) → L_X11_first_29 f1 f2 K post n v7 τ6)))))))
def T_X11_first (a1 : Int32) (τ : kT) (post : Int32 → kT → Prop) : Prop := (((14 : Int32) ≤ (q_i τ 67 8523) → (∃ m8 : Nat, L_X11_first_29  a1 (14 : Int32) (fun v9 τ10 => post (14 : Int32) τ10) post m8 (0 : Int32) τ)) ∧ (¬ (14 : Int32) ≤ (q_i τ 67 8523) → (∀ v11 : Int32, v11 = (q_i τ 67 8523) → (∃ m12 : Nat, L_X11_first_29  a1 v11 (fun v13 τ14 => post v11 τ14) post m12 (0 : Int32) τ))))
set_option maxRecDepth 100000 in
set_option maxHeartbeats 4000000 in
theorem l_X11_first_29 {d : Nat}  (f1 : Int32) (f2 : Int32) {K : Int32 → kT → Prop} {post : Int32 → kT → Prop} (hK : ∀ (x3 : Int32) (τ : kT), K x3 τ → U yX11_first cX11_first 4 (some .int) (d + 6) kE0 53 [some (.ref 66), some (.int f1), some (.int f2), some (.int x3)] [] τ (k_pi post)) : ∀ (n : Nat) (x3 : Int32) (τ : kT), L_X11_first_29  f1 f2 K post n x3 τ → U yX11_first cX11_first 4 (some .int) (d + 6) kE0 29 [some (.ref 66), some (.int f1), some (.int f2), some (.int x3)] [] τ (k_pi post) := by
  intro n
  induction n with
  | zero => intro x3 τ h; exact h.elim
  | succ n ih =>
    intro x3 τ h
    unfold L_X11_first_29 at h
    refine v_iload_n dX11_first_29 rfl rfl ?_
    refine v_iload_n dX11_first_30 rfl rfl ?_
    refine v_icmp_ge (tgt := 53) dX11_first_31 (by decide) (fun c2 => ?_) (fun c2 => ?_)
    · have h := h.1 c2
      exact hK x3 _ h
    · have h := h.2 c2
      refine v_aload_n dX11_first_34 rfl rfl ?_
      refine u_getr fX11_51 dX11_first_35 sh_66 rfl (by decide) (rf_66_21 _) ?_
      refine v_iload_n dX11_first_38 rfl rfl ?_
      refine v_aload_n dX11_first_39 rfl rfl ?_
      refine v_iload_n dX11_first_40 rfl rfl ?_
      refine u_callV [.int x3] mX11_opened iX11_opened lX11_208 dX11_first_41 sh_66 rfl rfl (by decide) ⟨rfl, rfl, id⟩ rfl rfl (Nat.le_of_ble_eq_true rfl) (Nat.le_of_ble_eq_true rfl) (v_X11_opened x3 _ _ h) ?_
      rintro _ τ4 ⟨r3, rfl, h⟩
      refine v_iload_n dX11_first_44 rfl rfl ?_
      refine v_iand dX11_first_45 ?_
      obtain ⟨j5, e_j5, l_j5, h⟩ := h
      refine u_iast dX11_first_46 sh_78 (by decide) (by decide) e_j5 l_j5 (fun τ6 e_τ6 => ?_)
      have h := h τ6 e_τ6
      obtain ⟨v7, e_v7⟩ : ∃ z : Int32, z = x3 + (1 : Int32) := ⟨_, rfl⟩
      have h := h v7 e_v7
      refine v_iinc (v := v7) dX11_first_47 rfl (by rw [e_v7]; rfl) (by decide) rfl ?_
      refine v_ls (ls2 := [some (.ref 66), some (.int f1), some (.int f2), some (.int v7)]) rfl ?_
      refine v_goto (tgt := 29) dX11_first_50 (by decide) ?_
      exact ih v7 _ h
set_option maxRecDepth 100000 in
set_option maxHeartbeats 4000000 in
theorem v_X11_first {d : Nat}  (a1 : Int32) (τ : kT) (post : Int32 → kT → Prop) (h : T_X11_first  a1 τ post) : U yX11_first cX11_first 4 (some .int) (d + 6) kE0 0 [some (.ref 66), some (.int a1), none, none] [] τ (k_pi post) := by
  unfold T_X11_first at h
  refine v_aload_n dX11_first_0 rfl rfl ?_
  refine u_getr fX11_7 dX11_first_1 sh_66 rfl (by decide) (rf_66_0 _) ?_
  refine v_sipush (v := 8523) dX11_first_4 (by decide) ?_
  refine u_iald dX11_first_7 sh_67 (by decide) (by decide) rfl (by decide) ?_
  refine v_bipush (v := 14) dX11_first_8 (by decide) ?_
  refine v_icmp_ge (tgt := 24) dX11_first_10 (by decide) (fun c1 => ?_) (fun c1 => ?_)
  · have h := h.1 c1
    refine v_bipush (v := 14) dX11_first_24 (by decide) ?_
    refine v_istore_n dX11_first_26 rfl (by decide) rfl ?_
    refine v_ls (ls2 := [some (.ref 66), some (.int a1), some (.int (14 : Int32)), none]) rfl ?_
    refine v_iconst (v := 0) dX11_first_27 (by decide) ?_
    refine v_istore_n dX11_first_28 rfl (by decide) rfl ?_
    refine v_ls (ls2 := [some (.ref 66), some (.int a1), some (.int (14 : Int32)), some (.int (0 : Int32))]) rfl ?_
    obtain ⟨m8, h⟩ := h
    refine l_X11_first_29  a1 (14 : Int32) (fun v9 τ10 h => ?_) m8 (0 : Int32) _ h
    refine v_iload_n dX11_first_53 rfl rfl ?_
    exact u_iret dX11_first_54 ⟨rfl, id⟩ h
  · have h := h.2 c1
    refine v_aload_n dX11_first_13 rfl rfl ?_
    refine u_getr fX11_7 dX11_first_14 sh_66 rfl (by decide) (rf_66_0 _) ?_
    refine v_sipush (v := 8523) dX11_first_17 (by decide) ?_
    refine u_iald dX11_first_20 sh_67 (by decide) (by decide) rfl (by decide) ?_
    refine v_goto (tgt := 26) dX11_first_21 (by decide) ?_
    refine v_topi (fun v11 e_v11 => ?_)
    have h := h v11 e_v11
    refine v_istore_n dX11_first_26 rfl (by decide) rfl ?_
    refine v_ls (ls2 := [some (.ref 66), some (.int a1), some (.int v11), none]) rfl ?_
    refine v_iconst (v := 0) dX11_first_27 (by decide) ?_
    refine v_istore_n dX11_first_28 rfl (by decide) rfl ?_
    refine v_ls (ls2 := [some (.ref 66), some (.int a1), some (.int v11), some (.int (0 : Int32))]) rfl ?_
    obtain ⟨m12, h⟩ := h
    refine l_X11_first_29  a1 v11 (fun v13 τ14 h => ?_) m12 (0 : Int32) _ h
    refine v_iload_n dX11_first_53 rfl rfl ?_
    exact u_iret dX11_first_54 ⟨rfl, id⟩ h
def L_X11_carry_29  (f1 : Int32) (f2 : Int32) (f3 : Int32) (K : Int32 → Int32 → kT → Prop) (post : Int32 → kT → Prop) : Nat → Int32 → Int32 → kT → Prop
  | 0, _, _, _ => False
  | n + 1, x4, x5, τ => ((f2 ≤ x5 → K x4 x5 τ) ∧ (¬ f2 ≤ x5 → (∃ j8 : Nat, x5 = nI j8 ∧ j8 < 14 ∧ (∀ v9 : Int32, v9 = (x4 ||| (q_i τ 78 j8)) → (∀ v10 : Int32, v10 = x5 + (1 : Int32) → L_X11_carry_29 f1 f2 f3 K post n v9 v10 τ)))))
def L_X11_carry_74  (f1 : Int32) (f2 : Int32) (f3 : Int32) (f4 : Int32) (f5 : Int32) (K : Int32 → kT → Prop) (post : Int32 → kT → Prop) : Nat → Int32 → kT → Prop
  | 0, _, _ => False
  | n + 1, x6, τ => ((f5 ≤ 0 → K x6 τ) ∧ (¬ f5 ≤ 0 → ((¬ ((f5 >>> (x6 &&& 31)) &&& (1 : Int32)) = 0 → K x6 τ) ∧ (((f5 >>> (x6 &&& 31)) &&& (1 : Int32)) = 0 → (∀ v19 : Int32, v19 = x6 + (1 : Int32) → L_X11_carry_74 f1 f2 f3 f4 f5 K post n v19 τ)))))
def L_X11_carry_63  (f1 : Int32) (f2 : Int32) (f4 : Int32) (K : Int32 → Int32 → kT → Prop) (post : Int32 → kT → Prop) : Nat → Int32 → Int32 → kT → Prop
  | 0, _, _, _ => False
  | n + 1, x3, x5, τ => ((((1 : Int32) <<< (f2 &&& 31)) ≤ x5 → K x3 x5 τ) ∧ (¬ ((1 : Int32) <<< (f2 &&& 31)) ≤ x5 → (∃ m20 : Nat, L_X11_carry_74  f1 f2 x3 f4 x5 (fun v21 τ22 => ((¬ x5 = 0 → (∃ j24 : Nat, (x5 &&& (x5 - (1 : Int32))) = nI j24 ∧ j24 < 16384 ∧ (∃ j25 : Nat, v21 = nI j25 ∧ j25 < 14 ∧ (∃ j26 : Nat, x5 = nI j26 ∧ j26 < 16384 ∧ (∀ τ27 : kT, τ27 = q_si τ22 79 j26 ((q_i τ22 79 j24) ||| (q_i τ22 78 j25)) → (∃ j28 : Nat, x5 = nI j28 ∧ j28 < 16384 ∧ ((¬ (q_i τ27 79 j28) = f4 → (∀ v30 : Int32, v30 = x5 + (1 : Int32) → L_X11_carry_63 f1 f2 f4 K post n x3 v30 τ27)) ∧ ((q_i τ27 79 j28) = f4 → (T_X11_bits x5 τ27 (fun r31 τ32 => (T_X11_bits x3 τ32 (fun r33 τ34 => ((r33 ≤ r31 → (∀ v36 : Int32, v36 = x5 + (1 : Int32) → L_X11_carry_63 f1 f2 f4 K post n x3 v36 τ34)) ∧ (¬ r33 ≤ r31 → (∀ v37 : Int32, v37 = x5 + (1 : Int32) → L_X11_carry_63 f1 f2 f4 K post n x5 v37 τ34))))))))))))))) ∧ (x5 = 0 → (∃ j38 : Nat, x5 = nI j38 ∧ j38 < 16384 ∧ (∀ τ39 : kT, τ39 = q_si τ22 79 j38 (0 : Int32) → (∃ j40 : Nat, x5 = nI j40 ∧ j40 < 16384 ∧ ((¬ (q_i τ39 79 j40) = f4 → (∀ v42 : Int32, v42 = x5 + (1 : Int32) → L_X11_carry_63 f1 f2 f4 K post n x3 v42 τ39)) ∧ ((q_i τ39 79 j40) = f4 → (T_X11_bits x5 τ39 (fun r43 τ44 => (T_X11_bits x3 τ44 (fun r45 τ46 => ((r45 ≤ r43 → (∀ v48 : Int32, v48 = x5 + (1 : Int32) → L_X11_carry_63 f1 f2 f4 K post n x3 v48 τ46)) ∧ (¬ r45 ≤ r43 → (∀ v49 : Int32, v49 = x5 + (1 : Int32) → L_X11_carry_63 f1 f2 f4 K post n x5 v49 τ46))))))))))))))) post m20 (0 : Int32) τ)))
def T_X11_carry (a1 : Int32) (τ : kT) (post : Int32 → kT → Prop) : Prop := (T_X11_areDoors a1 τ (fun r1 τ2 => ((¬ r1 = 0 → (T_X11_first a1 τ2 (fun r4 τ5 => (∀ v6 : Int32, v6 = (((1 : Int32) <<< (r4 &&& 31)) - (1 : Int32)) → (∃ m11 : Nat, L_X11_carry_29  a1 r4 v6 (fun v12 v13 τ14 => (∀ τ15 : kT, τ15 = q_si τ14 79 0 (0 : Int32) → (∃ m50 : Nat, L_X11_carry_63  a1 r4 v12 (fun v51 v52 τ53 => post v51 τ53) post m50 v6 (0 : Int32) τ15))) post m11 (0 : Int32) (0 : Int32) τ5))))) ∧ (r1 = 0 → post (-2 : Int32) τ2))))
set_option maxRecDepth 100000 in
set_option maxHeartbeats 4000000 in
theorem l_X11_carry_29 {d : Nat}  (f1 : Int32) (f2 : Int32) (f3 : Int32) {K : Int32 → Int32 → kT → Prop} {post : Int32 → kT → Prop} (hK : ∀ (x4 : Int32) (x5 : Int32) (τ : kT), K x4 x5 τ → U yX11_carry cX11_carry 7 (some .int) (d + 7) kE0 53 [some (.ref 66), some (.int f1), some (.int f2), some (.int f3), some (.int x4), some (.int x5), none] [] τ (k_pi post)) : ∀ (n : Nat) (x4 : Int32) (x5 : Int32) (τ : kT), L_X11_carry_29  f1 f2 f3 K post n x4 x5 τ → U yX11_carry cX11_carry 7 (some .int) (d + 7) kE0 29 [some (.ref 66), some (.int f1), some (.int f2), some (.int f3), some (.int x4), some (.int x5), none] [] τ (k_pi post) := by
  intro n
  induction n with
  | zero => intro x4 x5 τ h; exact h.elim
  | succ n ih =>
    intro x4 x5 τ h
    unfold L_X11_carry_29 at h
    refine v_iload dX11_carry_29 rfl ?_
    refine v_iload_n dX11_carry_31 rfl rfl ?_
    refine v_icmp_ge (tgt := 53) dX11_carry_32 (by decide) (fun c7 => ?_) (fun c7 => ?_)
    · have h := h.1 c7
      exact hK x4 x5 _ h
    · have h := h.2 c7
      refine v_iload dX11_carry_35 rfl ?_
      refine v_aload_n dX11_carry_37 rfl rfl ?_
      refine u_getr fX11_51 dX11_carry_38 sh_66 rfl (by decide) (rf_66_21 _) ?_
      refine v_iload dX11_carry_41 rfl ?_
      obtain ⟨j8, e_j8, l_j8, h⟩ := h
      refine u_iald dX11_carry_43 sh_78 (by decide) (by decide) e_j8 l_j8 ?_
      refine v_ior dX11_carry_44 ?_
      refine v_topi (fun v9 e_v9 => ?_)
      have h := h v9 e_v9
      refine v_istore dX11_carry_45 (by decide) rfl ?_
      refine v_ls (ls2 := [some (.ref 66), some (.int f1), some (.int f2), some (.int f3), some (.int v9), some (.int x5), none]) rfl ?_
      obtain ⟨v10, e_v10⟩ : ∃ z : Int32, z = x5 + (1 : Int32) := ⟨_, rfl⟩
      have h := h v10 e_v10
      refine v_iinc (v := v10) dX11_carry_47 rfl (by rw [e_v10]; rfl) (by decide) rfl ?_
      refine v_ls (ls2 := [some (.ref 66), some (.int f1), some (.int f2), some (.int f3), some (.int v9), some (.int v10), none]) rfl ?_
      refine v_goto (tgt := 29) dX11_carry_50 (by decide) ?_
      exact ih v9 v10 _ h
set_option maxRecDepth 100000 in
set_option maxHeartbeats 4000000 in
theorem l_X11_carry_74 {d : Nat}  (f1 : Int32) (f2 : Int32) (f3 : Int32) (f4 : Int32) (f5 : Int32) {K : Int32 → kT → Prop} {post : Int32 → kT → Prop} (hK : ∀ (x6 : Int32) (τ : kT), K x6 τ → U yX11_carry cX11_carry 7 (some .int) (d + 7) kE0 95 [some (.ref 66), some (.int f1), some (.int f2), some (.int f3), some (.int f4), some (.int f5), some (.int x6)] [] τ (k_pi post)) : ∀ (n : Nat) (x6 : Int32) (τ : kT), L_X11_carry_74  f1 f2 f3 f4 f5 K post n x6 τ → U yX11_carry cX11_carry 7 (some .int) (d + 7) kE0 74 [some (.ref 66), some (.int f1), some (.int f2), some (.int f3), some (.int f4), some (.int f5), some (.int x6)] [] τ (k_pi post) := by
  intro n
  induction n with
  | zero => intro x6 τ h; exact h.elim
  | succ n ih =>
    intro x6 τ h
    unfold L_X11_carry_74 at h
    refine v_iload dX11_carry_74 rfl ?_
    refine v_if_le (tgt := 95) dX11_carry_76 (by decide) (fun c17 => ?_) (fun c17 => ?_)
    · have h := h.1 c17
      exact hK x6 _ h
    · have h := h.2 c17
      refine v_iload dX11_carry_79 rfl ?_
      refine v_iload dX11_carry_81 rfl ?_
      refine v_ishr dX11_carry_83 ?_
      refine v_iconst (v := 1) dX11_carry_84 (by decide) ?_
      refine v_iand dX11_carry_85 ?_
      refine v_if_ne (tgt := 95) dX11_carry_86 (by decide) (fun c18 => ?_) (fun c18 => ?_)
      · have h := h.1 c18
        exact hK x6 _ h
      · have h := h.2 c18
        obtain ⟨v19, e_v19⟩ : ∃ z : Int32, z = x6 + (1 : Int32) := ⟨_, rfl⟩
        have h := h v19 e_v19
        refine v_iinc (v := v19) dX11_carry_89 rfl (by rw [e_v19]; rfl) (by decide) rfl ?_
        refine v_ls (ls2 := [some (.ref 66), some (.int f1), some (.int f2), some (.int f3), some (.int f4), some (.int f5), some (.int v19)]) rfl ?_
        refine v_goto (tgt := 74) dX11_carry_92 (by decide) ?_
        exact ih v19 _ h
set_option maxRecDepth 100000 in
set_option maxHeartbeats 4000000 in
theorem l_X11_carry_63 {d : Nat}  (f1 : Int32) (f2 : Int32) (f4 : Int32) {K : Int32 → Int32 → kT → Prop} {post : Int32 → kT → Prop} (hK : ∀ (x3 : Int32) (x5 : Int32) (τ : kT), K x3 x5 τ → U yX11_carry cX11_carry 7 (some .int) (d + 7) kE0 168 [some (.ref 66), some (.int f1), some (.int f2), some (.int x3), some (.int f4), some (.int x5), none] [] τ (k_pi post)) : ∀ (n : Nat) (x3 : Int32) (x5 : Int32) (τ : kT), L_X11_carry_63  f1 f2 f4 K post n x3 x5 τ → U yX11_carry cX11_carry 7 (some .int) (d + 7) kE0 63 [some (.ref 66), some (.int f1), some (.int f2), some (.int x3), some (.int f4), some (.int x5), none] [] τ (k_pi post) := by
  intro n
  induction n with
  | zero => intro x3 x5 τ h; exact h.elim
  | succ n ih =>
    intro x3 x5 τ h
    unfold L_X11_carry_63 at h
    refine v_iload dX11_carry_63 rfl ?_
    refine v_iconst (v := 1) dX11_carry_65 (by decide) ?_
    refine v_iload_n dX11_carry_66 rfl rfl ?_
    refine v_ishl dX11_carry_67 ?_
    refine v_icmp_ge (tgt := 168) dX11_carry_68 (by decide) (fun c16 => ?_) (fun c16 => ?_)
    · have h := h.1 c16
      exact hK x3 x5 _ h
    · have h := h.2 c16
      refine v_iconst (v := 0) dX11_carry_71 (by decide) ?_
      refine v_istore dX11_carry_72 (by decide) rfl ?_
      refine v_ls (ls2 := [some (.ref 66), some (.int f1), some (.int f2), some (.int x3), some (.int f4), some (.int x5), some (.int (0 : Int32))]) rfl ?_
      obtain ⟨m20, h⟩ := h
      refine l_X11_carry_74  f1 f2 x3 f4 x5 (fun v21 τ22 h => ?_) m20 (0 : Int32) _ h
      refine v_aload_n dX11_carry_95 rfl rfl ?_
      refine u_getr fX11_54 dX11_carry_96 sh_66 rfl (by decide) (rf_66_22 _) ?_
      refine v_iload dX11_carry_99 rfl ?_
      refine v_iload dX11_carry_101 rfl ?_
      refine v_if_ne (tgt := 110) dX11_carry_103 (by decide) (fun c23 => ?_) (fun c23 => ?_)
      · have h := h.1 c23
        refine v_aload_n dX11_carry_110 rfl rfl ?_
        refine u_getr fX11_54 dX11_carry_111 sh_66 rfl (by decide) (rf_66_22 _) ?_
        refine v_iload dX11_carry_114 rfl ?_
        refine v_iload dX11_carry_116 rfl ?_
        refine v_iconst (v := 1) dX11_carry_118 (by decide) ?_
        refine v_isub dX11_carry_119 ?_
        refine v_iand dX11_carry_120 ?_
        obtain ⟨j24, e_j24, l_j24, h⟩ := h
        refine u_iald dX11_carry_121 sh_79 (by decide) (by decide) e_j24 l_j24 ?_
        refine v_aload_n dX11_carry_122 rfl rfl ?_
        refine u_getr fX11_51 dX11_carry_123 sh_66 rfl (by decide) (rf_66_21 _) ?_
        refine v_iload dX11_carry_126 rfl ?_
        obtain ⟨j25, e_j25, l_j25, h⟩ := h
        refine u_iald dX11_carry_128 sh_78 (by decide) (by decide) e_j25 l_j25 ?_
        refine v_ior dX11_carry_129 ?_
        obtain ⟨j26, e_j26, l_j26, h⟩ := h
        refine u_iast dX11_carry_130 sh_79 (by decide) (by decide) e_j26 l_j26 (fun τ27 e_τ27 => ?_)
        have h := h τ27 e_τ27
        refine v_aload_n dX11_carry_131 rfl rfl ?_
        refine u_getr fX11_54 dX11_carry_132 sh_66 rfl (by decide) (rf_66_22 _) ?_
        refine v_iload dX11_carry_135 rfl ?_
        obtain ⟨j28, e_j28, l_j28, h⟩ := h
        refine u_iald dX11_carry_137 sh_79 (by decide) (by decide) e_j28 l_j28 ?_
        refine v_iload dX11_carry_138 rfl ?_
        refine v_icmp_ne (tgt := 160) dX11_carry_140 (by decide) (fun c29 => ?_) (fun c29 => ?_)
        · have h := h.1 c29
          refine v_iload_n dX11_carry_160 rfl rfl ?_
          refine v_istore_n dX11_carry_161 rfl (by decide) rfl ?_
          refine v_ls (ls2 := [some (.ref 66), some (.int f1), some (.int f2), some (.int x3), some (.int f4), some (.int x5), some (.int v21)]) rfl ?_
          obtain ⟨v30, e_v30⟩ : ∃ z : Int32, z = x5 + (1 : Int32) := ⟨_, rfl⟩
          have h := h v30 e_v30
          refine v_iinc (v := v30) dX11_carry_162 rfl (by rw [e_v30]; rfl) (by decide) rfl ?_
          refine v_ls (ls2 := [some (.ref 66), some (.int f1), some (.int f2), some (.int x3), some (.int f4), some (.int v30), some (.int v21)]) rfl ?_
          refine v_goto (tgt := 63) dX11_carry_165 (by decide) ?_
          refine v_none 6 ?_
          refine v_ls (ls2 := [some (.ref 66), some (.int f1), some (.int f2), some (.int x3), some (.int f4), some (.int v30), none]) rfl ?_
          exact ih x3 v30 _ h
        · have h := h.2 c29
          refine v_iload dX11_carry_143 rfl ?_
          refine u_callS [.int x5] mX11_bits sX11_bits lX11_97 dX11_carry_145 ⟨rfl, rfl, id⟩ rfl rfl (Nat.le_of_ble_eq_true rfl) (Nat.le_of_ble_eq_true rfl) (v_X11_bits x5 _ _ h) ?_
          rintro _ τ32 ⟨r31, rfl, h⟩
          refine v_iload_n dX11_carry_148 rfl rfl ?_
          refine u_callS [.int x3] mX11_bits sX11_bits lX11_97 dX11_carry_149 ⟨rfl, rfl, id⟩ rfl rfl (Nat.le_of_ble_eq_true rfl) (Nat.le_of_ble_eq_true rfl) (v_X11_bits x3 _ _ h) ?_
          rintro _ τ34 ⟨r33, rfl, h⟩
          refine v_icmp_ge (tgt := 160) dX11_carry_152 (by decide) (fun c35 => ?_) (fun c35 => ?_)
          · have h := h.1 c35
            refine v_iload_n dX11_carry_160 rfl rfl ?_
            refine v_istore_n dX11_carry_161 rfl (by decide) rfl ?_
            refine v_ls (ls2 := [some (.ref 66), some (.int f1), some (.int f2), some (.int x3), some (.int f4), some (.int x5), some (.int v21)]) rfl ?_
            obtain ⟨v36, e_v36⟩ : ∃ z : Int32, z = x5 + (1 : Int32) := ⟨_, rfl⟩
            have h := h v36 e_v36
            refine v_iinc (v := v36) dX11_carry_162 rfl (by rw [e_v36]; rfl) (by decide) rfl ?_
            refine v_ls (ls2 := [some (.ref 66), some (.int f1), some (.int f2), some (.int x3), some (.int f4), some (.int v36), some (.int v21)]) rfl ?_
            refine v_goto (tgt := 63) dX11_carry_165 (by decide) ?_
            refine v_none 6 ?_
            refine v_ls (ls2 := [some (.ref 66), some (.int f1), some (.int f2), some (.int x3), some (.int f4), some (.int v36), none]) rfl ?_
            exact ih x3 v36 _ h
          · have h := h.2 c35
            refine v_iload dX11_carry_155 rfl ?_
            refine v_goto (tgt := 161) dX11_carry_157 (by decide) ?_
            refine v_istore_n dX11_carry_161 rfl (by decide) rfl ?_
            refine v_ls (ls2 := [some (.ref 66), some (.int f1), some (.int f2), some (.int x5), some (.int f4), some (.int x5), some (.int v21)]) rfl ?_
            obtain ⟨v37, e_v37⟩ : ∃ z : Int32, z = x5 + (1 : Int32) := ⟨_, rfl⟩
            have h := h v37 e_v37
            refine v_iinc (v := v37) dX11_carry_162 rfl (by rw [e_v37]; rfl) (by decide) rfl ?_
            refine v_ls (ls2 := [some (.ref 66), some (.int f1), some (.int f2), some (.int x5), some (.int f4), some (.int v37), some (.int v21)]) rfl ?_
            refine v_goto (tgt := 63) dX11_carry_165 (by decide) ?_
            refine v_none 6 ?_
            refine v_ls (ls2 := [some (.ref 66), some (.int f1), some (.int f2), some (.int x5), some (.int f4), some (.int v37), none]) rfl ?_
            exact ih x5 v37 _ h
      · have h := h.2 c23
        refine v_iconst (v := 0) dX11_carry_106 (by decide) ?_
        refine v_goto (tgt := 130) dX11_carry_107 (by decide) ?_
        obtain ⟨j38, e_j38, l_j38, h⟩ := h
        refine u_iast dX11_carry_130 sh_79 (by decide) (by decide) e_j38 l_j38 (fun τ39 e_τ39 => ?_)
        have h := h τ39 e_τ39
        refine v_aload_n dX11_carry_131 rfl rfl ?_
        refine u_getr fX11_54 dX11_carry_132 sh_66 rfl (by decide) (rf_66_22 _) ?_
        refine v_iload dX11_carry_135 rfl ?_
        obtain ⟨j40, e_j40, l_j40, h⟩ := h
        refine u_iald dX11_carry_137 sh_79 (by decide) (by decide) e_j40 l_j40 ?_
        refine v_iload dX11_carry_138 rfl ?_
        refine v_icmp_ne (tgt := 160) dX11_carry_140 (by decide) (fun c41 => ?_) (fun c41 => ?_)
        · have h := h.1 c41
          refine v_iload_n dX11_carry_160 rfl rfl ?_
          refine v_istore_n dX11_carry_161 rfl (by decide) rfl ?_
          refine v_ls (ls2 := [some (.ref 66), some (.int f1), some (.int f2), some (.int x3), some (.int f4), some (.int x5), some (.int v21)]) rfl ?_
          obtain ⟨v42, e_v42⟩ : ∃ z : Int32, z = x5 + (1 : Int32) := ⟨_, rfl⟩
          have h := h v42 e_v42
          refine v_iinc (v := v42) dX11_carry_162 rfl (by rw [e_v42]; rfl) (by decide) rfl ?_
          refine v_ls (ls2 := [some (.ref 66), some (.int f1), some (.int f2), some (.int x3), some (.int f4), some (.int v42), some (.int v21)]) rfl ?_
          refine v_goto (tgt := 63) dX11_carry_165 (by decide) ?_
          refine v_none 6 ?_
          refine v_ls (ls2 := [some (.ref 66), some (.int f1), some (.int f2), some (.int x3), some (.int f4), some (.int v42), none]) rfl ?_
          exact ih x3 v42 _ h
        · have h := h.2 c41
          refine v_iload dX11_carry_143 rfl ?_
          refine u_callS [.int x5] mX11_bits sX11_bits lX11_97 dX11_carry_145 ⟨rfl, rfl, id⟩ rfl rfl (Nat.le_of_ble_eq_true rfl) (Nat.le_of_ble_eq_true rfl) (v_X11_bits x5 _ _ h) ?_
          rintro _ τ44 ⟨r43, rfl, h⟩
          refine v_iload_n dX11_carry_148 rfl rfl ?_
          refine u_callS [.int x3] mX11_bits sX11_bits lX11_97 dX11_carry_149 ⟨rfl, rfl, id⟩ rfl rfl (Nat.le_of_ble_eq_true rfl) (Nat.le_of_ble_eq_true rfl) (v_X11_bits x3 _ _ h) ?_
          rintro _ τ46 ⟨r45, rfl, h⟩
          refine v_icmp_ge (tgt := 160) dX11_carry_152 (by decide) (fun c47 => ?_) (fun c47 => ?_)
          · have h := h.1 c47
            refine v_iload_n dX11_carry_160 rfl rfl ?_
            refine v_istore_n dX11_carry_161 rfl (by decide) rfl ?_
            refine v_ls (ls2 := [some (.ref 66), some (.int f1), some (.int f2), some (.int x3), some (.int f4), some (.int x5), some (.int v21)]) rfl ?_
            obtain ⟨v48, e_v48⟩ : ∃ z : Int32, z = x5 + (1 : Int32) := ⟨_, rfl⟩
            have h := h v48 e_v48
            refine v_iinc (v := v48) dX11_carry_162 rfl (by rw [e_v48]; rfl) (by decide) rfl ?_
            refine v_ls (ls2 := [some (.ref 66), some (.int f1), some (.int f2), some (.int x3), some (.int f4), some (.int v48), some (.int v21)]) rfl ?_
            refine v_goto (tgt := 63) dX11_carry_165 (by decide) ?_
            refine v_none 6 ?_
            refine v_ls (ls2 := [some (.ref 66), some (.int f1), some (.int f2), some (.int x3), some (.int f4), some (.int v48), none]) rfl ?_
            exact ih x3 v48 _ h
          · have h := h.2 c47
            refine v_iload dX11_carry_155 rfl ?_
            refine v_goto (tgt := 161) dX11_carry_157 (by decide) ?_
            refine v_istore_n dX11_carry_161 rfl (by decide) rfl ?_
            refine v_ls (ls2 := [some (.ref 66), some (.int f1), some (.int f2), some (.int x5), some (.int f4), some (.int x5), some (.int v21)]) rfl ?_
            obtain ⟨v49, e_v49⟩ : ∃ z : Int32, z = x5 + (1 : Int32) := ⟨_, rfl⟩
            have h := h v49 e_v49
            refine v_iinc (v := v49) dX11_carry_162 rfl (by rw [e_v49]; rfl) (by decide) rfl ?_
            refine v_ls (ls2 := [some (.ref 66), some (.int f1), some (.int f2), some (.int x5), some (.int f4), some (.int v49), some (.int v21)]) rfl ?_
            refine v_goto (tgt := 63) dX11_carry_165 (by decide) ?_
            refine v_none 6 ?_
            refine v_ls (ls2 := [some (.ref 66), some (.int f1), some (.int f2), some (.int x5), some (.int f4), some (.int v49), none]) rfl ?_
            exact ih x5 v49 _ h
set_option maxRecDepth 100000 in
set_option maxHeartbeats 4000000 in
theorem v_X11_carry {d : Nat}  (a1 : Int32) (τ : kT) (post : Int32 → kT → Prop) (h : T_X11_carry  a1 τ post) : U yX11_carry cX11_carry 7 (some .int) (d + 7) kE0 0 [some (.ref 66), some (.int a1), none, none, none, none, none] [] τ (k_pi post) := by
  unfold T_X11_carry at h
  refine v_aload_n dX11_carry_0 rfl rfl ?_
  refine v_iload_n dX11_carry_1 rfl rfl ?_
  refine u_callV [.int a1] mX11_areDoors iX11_areDoors lX11_211 dX11_carry_2 sh_66 rfl rfl (by decide) ⟨rfl, rfl, id⟩ rfl rfl (Nat.le_of_ble_eq_true rfl) (Nat.le_of_ble_eq_true rfl) (v_X11_areDoors a1 _ _ h) ?_
  rintro _ τ2 ⟨r1, rfl, h⟩
  refine v_if_ne (tgt := 11) dX11_carry_5 (by decide) (fun c3 => ?_) (fun c3 => ?_)
  · have h := h.1 c3
    refine v_aload_n dX11_carry_11 rfl rfl ?_
    refine v_iload_n dX11_carry_12 rfl rfl ?_
    refine u_callV [.int a1] mX11_first iX11_first lX11_214 dX11_carry_13 sh_66 rfl rfl (by decide) ⟨rfl, rfl, id⟩ rfl rfl (Nat.le_of_ble_eq_true rfl) (Nat.le_of_ble_eq_true rfl) (v_X11_first a1 _ _ h) ?_
    rintro _ τ5 ⟨r4, rfl, h⟩
    refine v_istore_n dX11_carry_16 rfl (by decide) rfl ?_
    refine v_ls (ls2 := [some (.ref 66), some (.int a1), some (.int r4), none, none, none, none]) rfl ?_
    refine v_iconst (v := 1) dX11_carry_17 (by decide) ?_
    refine v_iload_n dX11_carry_18 rfl rfl ?_
    refine v_ishl dX11_carry_19 ?_
    refine v_iconst (v := 1) dX11_carry_20 (by decide) ?_
    refine v_isub dX11_carry_21 ?_
    refine v_topi (fun v6 e_v6 => ?_)
    have h := h v6 e_v6
    refine v_istore_n dX11_carry_22 rfl (by decide) rfl ?_
    refine v_ls (ls2 := [some (.ref 66), some (.int a1), some (.int r4), some (.int v6), none, none, none]) rfl ?_
    refine v_iconst (v := 0) dX11_carry_23 (by decide) ?_
    refine v_istore dX11_carry_24 (by decide) rfl ?_
    refine v_ls (ls2 := [some (.ref 66), some (.int a1), some (.int r4), some (.int v6), some (.int (0 : Int32)), none, none]) rfl ?_
    refine v_iconst (v := 0) dX11_carry_26 (by decide) ?_
    refine v_istore dX11_carry_27 (by decide) rfl ?_
    refine v_ls (ls2 := [some (.ref 66), some (.int a1), some (.int r4), some (.int v6), some (.int (0 : Int32)), some (.int (0 : Int32)), none]) rfl ?_
    obtain ⟨m11, h⟩ := h
    refine l_X11_carry_29  a1 r4 v6 (fun v12 v13 τ14 h => ?_) m11 (0 : Int32) (0 : Int32) _ h
    refine v_aload_n dX11_carry_53 rfl rfl ?_
    refine u_getr fX11_54 dX11_carry_54 sh_66 rfl (by decide) (rf_66_22 _) ?_
    refine v_iconst (v := 0) dX11_carry_57 (by decide) ?_
    refine v_iconst (v := 0) dX11_carry_58 (by decide) ?_
    refine u_iast dX11_carry_59 sh_79 (by decide) (by decide) rfl (by decide) (fun τ15 e_τ15 => ?_)
    have h := h τ15 e_τ15
    refine v_iconst (v := 0) dX11_carry_60 (by decide) ?_
    refine v_istore dX11_carry_61 (by decide) rfl ?_
    refine v_ls (ls2 := [some (.ref 66), some (.int a1), some (.int r4), some (.int v6), some (.int v12), some (.int (0 : Int32)), none]) rfl ?_
    obtain ⟨m50, h⟩ := h
    refine l_X11_carry_63  a1 r4 v12 (fun v51 v52 τ53 h => ?_) m50 v6 (0 : Int32) _ h
    refine v_iload_n dX11_carry_168 rfl rfl ?_
    exact u_iret dX11_carry_169 ⟨rfl, id⟩ h
  · have h := h.2 c3
    refine v_bipush (v := -2) dX11_carry_8 (by decide) ?_
    exact u_iret dX11_carry_10 ⟨rfl, id⟩ h
def L_X11_closed_22  (f1 : Int32) (f2 : Int32) (K : Int32 → Int32 → kT → Prop) (post : Int32 → kT → Prop) : Nat → Int32 → Int32 → kT → Prop
  | 0, _, _, _ => False
  | n + 1, x3, x4, τ => ((f2 ≤ x4 → K x3 x4 τ) ∧ (¬ f2 ≤ x4 → (∃ j7 : Nat, x4 = nI j7 ∧ j7 < 14 ∧ (∀ v8 : Int32, v8 = (x3 &&& ((q_i τ 78 j7) ^^^ (-1 : Int32))) → (∀ v9 : Int32, v9 = x4 + (1 : Int32) → L_X11_closed_22 f1 f2 K post n v8 v9 τ)))))
def T_X11_closed (a1 : Int32) (τ : kT) (post : Int32 → kT → Prop) : Prop := (T_X11_areDoors a1 τ (fun r1 τ2 => ((¬ r1 = 0 → (T_X11_first a1 τ2 (fun r4 τ5 => (∃ m10 : Nat, L_X11_closed_22  a1 r4 (fun v11 v12 τ13 => post v11 τ13) post m10 a1 (0 : Int32) τ5)))) ∧ (r1 = 0 → post (-2 : Int32) τ2))))
set_option maxRecDepth 100000 in
set_option maxHeartbeats 4000000 in
theorem l_X11_closed_22 {d : Nat}  (f1 : Int32) (f2 : Int32) {K : Int32 → Int32 → kT → Prop} {post : Int32 → kT → Prop} (hK : ∀ (x3 : Int32) (x4 : Int32) (τ : kT), K x3 x4 τ → U yX11_closed cX11_closed 5 (some .int) (d + 7) kE0 46 [some (.ref 66), some (.int f1), some (.int f2), some (.int x3), some (.int x4)] [] τ (k_pi post)) : ∀ (n : Nat) (x3 : Int32) (x4 : Int32) (τ : kT), L_X11_closed_22  f1 f2 K post n x3 x4 τ → U yX11_closed cX11_closed 5 (some .int) (d + 7) kE0 22 [some (.ref 66), some (.int f1), some (.int f2), some (.int x3), some (.int x4)] [] τ (k_pi post) := by
  intro n
  induction n with
  | zero => intro x3 x4 τ h; exact h.elim
  | succ n ih =>
    intro x3 x4 τ h
    unfold L_X11_closed_22 at h
    refine v_iload dX11_closed_22 rfl ?_
    refine v_iload_n dX11_closed_24 rfl rfl ?_
    refine v_icmp_ge (tgt := 46) dX11_closed_25 (by decide) (fun c6 => ?_) (fun c6 => ?_)
    · have h := h.1 c6
      exact hK x3 x4 _ h
    · have h := h.2 c6
      refine v_iload_n dX11_closed_28 rfl rfl ?_
      refine v_aload_n dX11_closed_29 rfl rfl ?_
      refine u_getr fX11_51 dX11_closed_30 sh_66 rfl (by decide) (rf_66_21 _) ?_
      refine v_iload dX11_closed_33 rfl ?_
      obtain ⟨j7, e_j7, l_j7, h⟩ := h
      refine u_iald dX11_closed_35 sh_78 (by decide) (by decide) e_j7 l_j7 ?_
      refine v_iconst (v := -1) dX11_closed_36 (by decide) ?_
      refine v_ixor dX11_closed_37 ?_
      refine v_iand dX11_closed_38 ?_
      refine v_topi (fun v8 e_v8 => ?_)
      have h := h v8 e_v8
      refine v_istore_n dX11_closed_39 rfl (by decide) rfl ?_
      refine v_ls (ls2 := [some (.ref 66), some (.int f1), some (.int f2), some (.int v8), some (.int x4)]) rfl ?_
      obtain ⟨v9, e_v9⟩ : ∃ z : Int32, z = x4 + (1 : Int32) := ⟨_, rfl⟩
      have h := h v9 e_v9
      refine v_iinc (v := v9) dX11_closed_40 rfl (by rw [e_v9]; rfl) (by decide) rfl ?_
      refine v_ls (ls2 := [some (.ref 66), some (.int f1), some (.int f2), some (.int v8), some (.int v9)]) rfl ?_
      refine v_goto (tgt := 22) dX11_closed_43 (by decide) ?_
      exact ih v8 v9 _ h
set_option maxRecDepth 100000 in
set_option maxHeartbeats 4000000 in
theorem v_X11_closed {d : Nat}  (a1 : Int32) (τ : kT) (post : Int32 → kT → Prop) (h : T_X11_closed  a1 τ post) : U yX11_closed cX11_closed 5 (some .int) (d + 7) kE0 0 [some (.ref 66), some (.int a1), none, none, none] [] τ (k_pi post) := by
  unfold T_X11_closed at h
  refine v_aload_n dX11_closed_0 rfl rfl ?_
  refine v_iload_n dX11_closed_1 rfl rfl ?_
  refine u_callV [.int a1] mX11_areDoors iX11_areDoors lX11_211 dX11_closed_2 sh_66 rfl rfl (by decide) ⟨rfl, rfl, id⟩ rfl rfl (Nat.le_of_ble_eq_true rfl) (Nat.le_of_ble_eq_true rfl) (v_X11_areDoors a1 _ _ h) ?_
  rintro _ τ2 ⟨r1, rfl, h⟩
  refine v_if_ne (tgt := 11) dX11_closed_5 (by decide) (fun c3 => ?_) (fun c3 => ?_)
  · have h := h.1 c3
    refine v_aload_n dX11_closed_11 rfl rfl ?_
    refine v_iload_n dX11_closed_12 rfl rfl ?_
    refine u_callV [.int a1] mX11_first iX11_first lX11_214 dX11_closed_13 sh_66 rfl rfl (by decide) ⟨rfl, rfl, id⟩ rfl rfl (Nat.le_of_ble_eq_true rfl) (Nat.le_of_ble_eq_true rfl) (v_X11_first a1 _ _ h) ?_
    rintro _ τ5 ⟨r4, rfl, h⟩
    refine v_istore_n dX11_closed_16 rfl (by decide) rfl ?_
    refine v_ls (ls2 := [some (.ref 66), some (.int a1), some (.int r4), none, none]) rfl ?_
    refine v_iload_n dX11_closed_17 rfl rfl ?_
    refine v_istore_n dX11_closed_18 rfl (by decide) rfl ?_
    refine v_ls (ls2 := [some (.ref 66), some (.int a1), some (.int r4), some (.int a1), none]) rfl ?_
    refine v_iconst (v := 0) dX11_closed_19 (by decide) ?_
    refine v_istore dX11_closed_20 (by decide) rfl ?_
    refine v_ls (ls2 := [some (.ref 66), some (.int a1), some (.int r4), some (.int a1), some (.int (0 : Int32))]) rfl ?_
    obtain ⟨m10, h⟩ := h
    refine l_X11_closed_22  a1 r4 (fun v11 v12 τ13 h => ?_) m10 a1 (0 : Int32) _ h
    refine v_iload_n dX11_closed_46 rfl rfl ?_
    exact u_iret dX11_closed_47 ⟨rfl, id⟩ h
  · have h := h.2 c3
    refine v_bipush (v := -2) dX11_closed_8 (by decide) ?_
    exact u_iret dX11_closed_10 ⟨rfl, id⟩ h
def T_X11_endangered (a1 : Int32) (τ : kT) (post : Int32 → kT → Prop) : Prop := (T_X11_isKey a1 τ (fun r1 τ2 => ((r1 = 0 → post (-2 : Int32) τ2) ∧ (¬ r1 = 0 → (T_X11_opened a1 τ2 (fun r4 τ5 => post r4 τ5))))))
set_option maxRecDepth 100000 in
set_option maxHeartbeats 4000000 in
theorem v_X11_endangered {d : Nat}  (a1 : Int32) (τ : kT) (post : Int32 → kT → Prop) (h : T_X11_endangered  a1 τ post) : U yX11_endangered cX11_endangered 2 (some .int) (d + 6) kE0 0 [some (.ref 66), some (.int a1)] [] τ (k_pi post) := by
  unfold T_X11_endangered at h
  refine v_aload_n dX11_endangered_0 rfl rfl ?_
  refine v_iload_n dX11_endangered_1 rfl rfl ?_
  refine u_callV [.int a1] mX11_isKey iX11_isKey lX11_125 dX11_endangered_2 sh_66 rfl rfl (by decide) ⟨rfl, rfl, id⟩ rfl rfl (Nat.le_of_ble_eq_true rfl) (Nat.le_of_ble_eq_true rfl) (v_X11_isKey a1 _ _ h) ?_
  rintro _ τ2 ⟨r1, rfl, h⟩
  refine v_if_eq (tgt := 16) dX11_endangered_5 (by decide) (fun c3 => ?_) (fun c3 => ?_)
  · have h := h.1 c3
    refine v_bipush (v := -2) dX11_endangered_16 (by decide) ?_
    exact u_iret dX11_endangered_18 ⟨rfl, id⟩ h
  · have h := h.2 c3
    refine v_aload_n dX11_endangered_8 rfl rfl ?_
    refine v_iload_n dX11_endangered_9 rfl rfl ?_
    refine u_callV [.int a1] mX11_opened iX11_opened lX11_208 dX11_endangered_10 sh_66 rfl rfl (by decide) ⟨rfl, rfl, id⟩ rfl rfl (Nat.le_of_ble_eq_true rfl) (Nat.le_of_ble_eq_true rfl) (v_X11_opened a1 _ _ h) ?_
    rintro _ τ5 ⟨r4, rfl, h⟩
    refine v_goto (tgt := 18) dX11_endangered_13 (by decide) ?_
    exact u_iret dX11_endangered_18 ⟨rfl, id⟩ h
def L_X11_undo_12   (K : Int32 → kT → Prop) (post : Int32 → kT → Prop) : Nat → Int32 → kT → Prop
  | 0, _, _ => False
  | n + 1, x1, τ => (((8530 : Int32) ≤ x1 → K x1 τ) ∧ (¬ (8530 : Int32) ≤ x1 → (∃ j3 : Nat, x1 = nI j3 ∧ j3 < 8530 ∧ (∃ j4 : Nat, x1 = nI j4 ∧ j4 < 8530 ∧ (∀ τ5 : kT, τ5 = q_si τ 67 j4 (q_i τ 68 j3) → (∀ v6 : Int32, v6 = x1 + (1 : Int32) → L_X11_undo_12  K post n v6 τ5))))))
def T_X11_undo  (τ : kT) (post : Int32 → kT → Prop) : Prop := ((¬ (q_i τ 66 2) = 0 → (∃ m7 : Nat, L_X11_undo_12   (fun v8 τ9 => (∀ τ10 : kT, τ10 = q_si τ9 66 2 (0 : Int32) → post (1 : Int32) τ10)) post m7 (0 : Int32) τ)) ∧ ((q_i τ 66 2) = 0 → post (-3 : Int32) τ))
set_option maxRecDepth 100000 in
set_option maxHeartbeats 4000000 in
theorem l_X11_undo_12 {d : Nat}   {K : Int32 → kT → Prop} {post : Int32 → kT → Prop} (hK : ∀ (x1 : Int32) (τ : kT), K x1 τ → U yX11_undo cX11_undo 2 (some .int) (d + 0) kE0 37 [some (.ref 66), some (.int x1)] [] τ (k_pi post)) : ∀ (n : Nat) (x1 : Int32) (τ : kT), L_X11_undo_12   K post n x1 τ → U yX11_undo cX11_undo 2 (some .int) (d + 0) kE0 12 [some (.ref 66), some (.int x1)] [] τ (k_pi post) := by
  intro n
  induction n with
  | zero => intro x1 τ h; exact h.elim
  | succ n ih =>
    intro x1 τ h
    unfold L_X11_undo_12 at h
    refine v_iload_n dX11_undo_12 rfl rfl ?_
    refine v_sipush (v := 8530) dX11_undo_13 (by decide) ?_
    refine v_icmp_ge (tgt := 37) dX11_undo_16 (by decide) (fun c2 => ?_) (fun c2 => ?_)
    · have h := h.1 c2
      exact hK x1 _ h
    · have h := h.2 c2
      refine v_aload_n dX11_undo_19 rfl rfl ?_
      refine u_getr fX11_7 dX11_undo_20 sh_66 rfl (by decide) (rf_66_0 _) ?_
      refine v_iload_n dX11_undo_23 rfl rfl ?_
      refine v_aload_n dX11_undo_24 rfl rfl ?_
      refine u_getr fX11_13 dX11_undo_25 sh_66 rfl (by decide) (rf_66_1 _) ?_
      refine v_iload_n dX11_undo_28 rfl rfl ?_
      obtain ⟨j3, e_j3, l_j3, h⟩ := h
      refine u_iald dX11_undo_29 sh_68 (by decide) (by decide) e_j3 l_j3 ?_
      obtain ⟨j4, e_j4, l_j4, h⟩ := h
      refine u_iast dX11_undo_30 sh_67 (by decide) (by decide) e_j4 l_j4 (fun τ5 e_τ5 => ?_)
      have h := h τ5 e_τ5
      obtain ⟨v6, e_v6⟩ : ∃ z : Int32, z = x1 + (1 : Int32) := ⟨_, rfl⟩
      have h := h v6 e_v6
      refine v_iinc (v := v6) dX11_undo_31 rfl (by rw [e_v6]; rfl) (by decide) rfl ?_
      refine v_ls (ls2 := [some (.ref 66), some (.int v6)]) rfl ?_
      refine v_goto (tgt := 12) dX11_undo_34 (by decide) ?_
      exact ih v6 _ h
set_option maxRecDepth 100000 in
set_option maxHeartbeats 4000000 in
theorem v_X11_undo {d : Nat}   (τ : kT) (post : Int32 → kT → Prop) (h : T_X11_undo   τ post) : U yX11_undo cX11_undo 2 (some .int) (d + 0) kE0 0 [some (.ref 66), none] [] τ (k_pi post) := by
  unfold T_X11_undo at h
  refine v_aload_n dX11_undo_0 rfl rfl ?_
  refine u_geti fX11_63 dX11_undo_1 sh_66 rfl (by decide) ?_
  refine v_if_ne (tgt := 10) dX11_undo_4 (by decide) (fun c1 => ?_) (fun c1 => ?_)
  · have h := h.1 c1
    refine v_iconst (v := 0) dX11_undo_10 (by decide) ?_
    refine v_istore_n dX11_undo_11 rfl (by decide) rfl ?_
    refine v_ls (ls2 := [some (.ref 66), some (.int (0 : Int32))]) rfl ?_
    obtain ⟨m7, h⟩ := h
    refine l_X11_undo_12   (fun v8 τ9 h => ?_) m7 (0 : Int32) _ h
    refine v_aload_n dX11_undo_37 rfl rfl ?_
    refine v_iconst (v := 0) dX11_undo_38 (by decide) ?_
    refine u_puti pX11_63 (by first | exact Or.inl rfl | exact Or.inr rfl) dX11_undo_39 sh_66 rfl (by decide) (by decide) (fun τ10 e_τ10 => ?_)
    have h := h τ10 e_τ10
    refine v_iconst (v := 1) dX11_undo_42 (by decide) ?_
    exact u_iret dX11_undo_43 ⟨rfl, id⟩ h
  · have h := h.2 c1
    refine v_bipush (v := -3) dX11_undo_7 (by decide) ?_
    exact u_iret dX11_undo_9 ⟨rfl, id⟩ h
def T_X11_finding  (τ : kT) (post : Int32 → kT → Prop) : Prop := post (q_i τ 66 4) τ
set_option maxRecDepth 100000 in
set_option maxHeartbeats 4000000 in
theorem v_X11_finding {d : Nat}   (τ : kT) (post : Int32 → kT → Prop) (h : T_X11_finding   τ post) : U yX11_finding cX11_finding 1 (some .int) (d + 0) kE0 0 [some (.ref 66)] [] τ (k_pi post) := by
  unfold T_X11_finding at h
  refine v_aload_n dX11_finding_0 rfl rfl ?_
  refine u_geti fX11_57 dX11_finding_1 sh_66 rfl (by decide) ?_
  exact u_iret dX11_finding_4 ⟨rfl, id⟩ h
def T_X11_trace (a1 : Int32) (τ : kT) (post : Int32 → kT → Prop) : Prop := (((40 : Int32) ≤ (q_i τ 66 9) → (T_X11_in ((a1).toInt64) (0 : Int64) ((((40 : Int32) - (1 : Int32))).toInt64) τ (fun r2 τ3 => ((r2 = 0 → post (-1 : Int32) τ3) ∧ (¬ r2 = 0 → (∃ j5 : Nat, a1 = nI j5 ∧ j5 < 40 ∧ post (q_i τ3 69 j5) τ3)))))) ∧ (¬ (40 : Int32) ≤ (q_i τ 66 9) → (T_X11_in ((a1).toInt64) (0 : Int64) ((((q_i τ 66 9) - (1 : Int32))).toInt64) τ (fun r6 τ7 => ((r6 = 0 → post (-1 : Int32) τ7) ∧ (¬ r6 = 0 → (∃ j9 : Nat, a1 = nI j9 ∧ j9 < 40 ∧ post (q_i τ7 69 j9) τ7)))))))
set_option maxRecDepth 100000 in
set_option maxHeartbeats 4000000 in
theorem v_X11_trace {d : Nat}  (a1 : Int32) (τ : kT) (post : Int32 → kT → Prop) (h : T_X11_trace  a1 τ post) : U yX11_trace cX11_trace 2 (some .int) (d + 1) kE0 0 [some (.ref 66), some (.int a1)] [] τ (k_pi post) := by
  unfold T_X11_trace at h
  refine v_iload_n dX11_trace_0 rfl rfl ?_
  refine v_i2l dX11_trace_1 ?_
  refine v_lconst (v := 0) dX11_trace_2 (by decide) ?_
  refine v_aload_n dX11_trace_3 rfl rfl ?_
  refine u_geti fX11_103 dX11_trace_4 sh_66 rfl (by decide) ?_
  refine v_bipush (v := 40) dX11_trace_7 (by decide) ?_
  refine v_icmp_ge (tgt := 19) dX11_trace_9 (by decide) (fun c1 => ?_) (fun c1 => ?_)
  · have h := h.1 c1
    refine v_bipush (v := 40) dX11_trace_19 (by decide) ?_
    refine v_iconst (v := 1) dX11_trace_21 (by decide) ?_
    refine v_isub dX11_trace_22 ?_
    refine v_i2l dX11_trace_23 ?_
    refine u_callS [.long ((a1).toInt64), .long (0 : Int64), .long ((((40 : Int32) - (1 : Int32))).toInt64)] mX11_in sX11_in lX11_67 dX11_trace_24 ⟨rfl, rfl, id⟩ rfl rfl (Nat.le_of_ble_eq_true rfl) (Nat.le_of_ble_eq_true rfl) (v_X11_in ((a1).toInt64) (0 : Int64) ((((40 : Int32) - (1 : Int32))).toInt64) _ _ h) ?_
    rintro _ τ3 ⟨r2, rfl, h⟩
    refine v_if_eq (tgt := 39) dX11_trace_27 (by decide) (fun c4 => ?_) (fun c4 => ?_)
    · have h := h.1 c4
      refine v_iconst (v := -1) dX11_trace_39 (by decide) ?_
      exact u_iret dX11_trace_40 ⟨rfl, id⟩ h
    · have h := h.2 c4
      refine v_aload_n dX11_trace_30 rfl rfl ?_
      refine u_getr fX11_23 dX11_trace_31 sh_66 rfl (by decide) (rf_66_8 _) ?_
      refine v_iload_n dX11_trace_34 rfl rfl ?_
      obtain ⟨j5, e_j5, l_j5, h⟩ := h
      refine u_iald dX11_trace_35 sh_69 (by decide) (by decide) e_j5 l_j5 ?_
      refine v_goto (tgt := 40) dX11_trace_36 (by decide) ?_
      exact u_iret dX11_trace_40 ⟨rfl, id⟩ h
  · have h := h.2 c1
    refine v_aload_n dX11_trace_12 rfl rfl ?_
    refine u_geti fX11_103 dX11_trace_13 sh_66 rfl (by decide) ?_
    refine v_goto (tgt := 21) dX11_trace_16 (by decide) ?_
    refine v_iconst (v := 1) dX11_trace_21 (by decide) ?_
    refine v_isub dX11_trace_22 ?_
    refine v_i2l dX11_trace_23 ?_
    refine u_callS [.long ((a1).toInt64), .long (0 : Int64), .long ((((q_i τ 66 9) - (1 : Int32))).toInt64)] mX11_in sX11_in lX11_67 dX11_trace_24 ⟨rfl, rfl, id⟩ rfl rfl (Nat.le_of_ble_eq_true rfl) (Nat.le_of_ble_eq_true rfl) (v_X11_in ((a1).toInt64) (0 : Int64) ((((q_i τ 66 9) - (1 : Int32))).toInt64) _ _ h) ?_
    rintro _ τ7 ⟨r6, rfl, h⟩
    refine v_if_eq (tgt := 39) dX11_trace_27 (by decide) (fun c8 => ?_) (fun c8 => ?_)
    · have h := h.1 c8
      refine v_iconst (v := -1) dX11_trace_39 (by decide) ?_
      exact u_iret dX11_trace_40 ⟨rfl, id⟩ h
    · have h := h.2 c8
      refine v_aload_n dX11_trace_30 rfl rfl ?_
      refine u_getr fX11_23 dX11_trace_31 sh_66 rfl (by decide) (rf_66_8 _) ?_
      refine v_iload_n dX11_trace_34 rfl rfl ?_
      obtain ⟨j9, e_j9, l_j9, h⟩ := h
      refine u_iald dX11_trace_35 sh_69 (by decide) (by decide) e_j9 l_j9 ?_
      refine v_goto (tgt := 40) dX11_trace_36 (by decide) ?_
      exact u_iret dX11_trace_40 ⟨rfl, id⟩ h
def T_X11_told (a1 : Int32) (τ : kT) (post : Int32 → kT → Prop) : Prop := ((a1.toInt < 0 ∨ 9 < a1.toInt → post (-2 : Int32) τ) ∧ (a1 = nI 0 → post (q_i τ 67 8522) τ) ∧ (a1 = nI 1 → post (q_i τ 67 8523) τ) ∧ (a1 = nI 2 → post (q_i τ 67 8524) τ) ∧ (a1 = nI 3 → post (q_i τ 67 8525) τ) ∧ (a1 = nI 4 → post (q_i τ 67 8526) τ) ∧ (a1 = nI 5 → post (q_i τ 67 8527) τ) ∧ (a1 = nI 6 → post (q_i τ 66 3) τ) ∧ (a1 = nI 7 → post (q_i τ 66 5) τ) ∧ (a1 = nI 8 → post (q_i τ 66 9) τ) ∧ (a1 = nI 9 → post (q_i τ 67 8528) τ))
set_option maxRecDepth 100000 in
set_option maxHeartbeats 4000000 in
theorem v_X11_told {d : Nat}  (a1 : Int32) (τ : kT) (post : Int32 → kT → Prop) (h : T_X11_told  a1 τ post) : U yX11_told cX11_told 2 (some .int) (d + 0) kE0 0 [some (.ref 66), some (.int a1)] [] τ (k_pi post) := by
  unfold T_X11_told at h
  refine v_iload_n dX11_told_0 rfl rfl ?_
  obtain ⟨h_out, h⟩ := h
  by_cases c1 : a1.toInt < 0 ∨ 9 < a1.toInt
  · have h := h_out c1
    refine v_tabOut (tgt := 134) dX11_told_1 c1 (by decide) ?_
    refine v_bipush (v := -2) dX11_told_134 (by decide) ?_
    exact u_iret dX11_told_136 ⟨rfl, id⟩ h
  · obtain ⟨k, hk, e_k⟩ := k_sw a1 9 (by decide) c1
    rcases (show k = 0 ∨ k = 1 ∨ k = 2 ∨ k = 3 ∨ k = 4 ∨ k = 5 ∨ k = 6 ∨ k = 7 ∨ k = 8 ∨ k = 9 by omega) with rfl | rfl | rfl | rfl | rfl | rfl | rfl | rfl | rfl | rfl
    · have h := h.1 e_k
      refine v_tabIn (off := 55) (tgt := 56) dX11_told_1 (fun q => c1 (Or.inl q)) (fun q => c1 (Or.inr q)) (by rw [e_k]; rfl) (by decide) ?_
      refine v_aload_n dX11_told_56 rfl rfl ?_
      refine u_getr fX11_7 dX11_told_57 sh_66 rfl (by decide) (rf_66_0 _) ?_
      refine v_sipush (v := 8522) dX11_told_60 (by decide) ?_
      refine u_iald dX11_told_63 sh_67 (by decide) (by decide) rfl (by decide) ?_
      exact u_iret dX11_told_64 ⟨rfl, id⟩ h
    · have h := h.2.1 e_k
      refine v_tabIn (off := 64) (tgt := 65) dX11_told_1 (fun q => c1 (Or.inl q)) (fun q => c1 (Or.inr q)) (by rw [e_k]; rfl) (by decide) ?_
      refine v_aload_n dX11_told_65 rfl rfl ?_
      refine u_getr fX11_7 dX11_told_66 sh_66 rfl (by decide) (rf_66_0 _) ?_
      refine v_sipush (v := 8523) dX11_told_69 (by decide) ?_
      refine u_iald dX11_told_72 sh_67 (by decide) (by decide) rfl (by decide) ?_
      exact u_iret dX11_told_73 ⟨rfl, id⟩ h
    · have h := h.2.2.1 e_k
      refine v_tabIn (off := 73) (tgt := 74) dX11_told_1 (fun q => c1 (Or.inl q)) (fun q => c1 (Or.inr q)) (by rw [e_k]; rfl) (by decide) ?_
      refine v_aload_n dX11_told_74 rfl rfl ?_
      refine u_getr fX11_7 dX11_told_75 sh_66 rfl (by decide) (rf_66_0 _) ?_
      refine v_sipush (v := 8524) dX11_told_78 (by decide) ?_
      refine u_iald dX11_told_81 sh_67 (by decide) (by decide) rfl (by decide) ?_
      exact u_iret dX11_told_82 ⟨rfl, id⟩ h
    · have h := h.2.2.2.1 e_k
      refine v_tabIn (off := 82) (tgt := 83) dX11_told_1 (fun q => c1 (Or.inl q)) (fun q => c1 (Or.inr q)) (by rw [e_k]; rfl) (by decide) ?_
      refine v_aload_n dX11_told_83 rfl rfl ?_
      refine u_getr fX11_7 dX11_told_84 sh_66 rfl (by decide) (rf_66_0 _) ?_
      refine v_sipush (v := 8525) dX11_told_87 (by decide) ?_
      refine u_iald dX11_told_90 sh_67 (by decide) (by decide) rfl (by decide) ?_
      exact u_iret dX11_told_91 ⟨rfl, id⟩ h
    · have h := h.2.2.2.2.1 e_k
      refine v_tabIn (off := 91) (tgt := 92) dX11_told_1 (fun q => c1 (Or.inl q)) (fun q => c1 (Or.inr q)) (by rw [e_k]; rfl) (by decide) ?_
      refine v_aload_n dX11_told_92 rfl rfl ?_
      refine u_getr fX11_7 dX11_told_93 sh_66 rfl (by decide) (rf_66_0 _) ?_
      refine v_sipush (v := 8526) dX11_told_96 (by decide) ?_
      refine u_iald dX11_told_99 sh_67 (by decide) (by decide) rfl (by decide) ?_
      exact u_iret dX11_told_100 ⟨rfl, id⟩ h
    · have h := h.2.2.2.2.2.1 e_k
      refine v_tabIn (off := 100) (tgt := 101) dX11_told_1 (fun q => c1 (Or.inl q)) (fun q => c1 (Or.inr q)) (by rw [e_k]; rfl) (by decide) ?_
      refine v_aload_n dX11_told_101 rfl rfl ?_
      refine u_getr fX11_7 dX11_told_102 sh_66 rfl (by decide) (rf_66_0 _) ?_
      refine v_sipush (v := 8527) dX11_told_105 (by decide) ?_
      refine u_iald dX11_told_108 sh_67 (by decide) (by decide) rfl (by decide) ?_
      exact u_iret dX11_told_109 ⟨rfl, id⟩ h
    · have h := h.2.2.2.2.2.2.1 e_k
      refine v_tabIn (off := 109) (tgt := 110) dX11_told_1 (fun q => c1 (Or.inl q)) (fun q => c1 (Or.inr q)) (by rw [e_k]; rfl) (by decide) ?_
      refine v_aload_n dX11_told_110 rfl rfl ?_
      refine u_geti fX11_117 dX11_told_111 sh_66 rfl (by decide) ?_
      exact u_iret dX11_told_114 ⟨rfl, id⟩ h
    · have h := h.2.2.2.2.2.2.2.1 e_k
      refine v_tabIn (off := 114) (tgt := 115) dX11_told_1 (fun q => c1 (Or.inl q)) (fun q => c1 (Or.inr q)) (by rw [e_k]; rfl) (by decide) ?_
      refine v_aload_n dX11_told_115 rfl rfl ?_
      refine u_geti fX11_60 dX11_told_116 sh_66 rfl (by decide) ?_
      exact u_iret dX11_told_119 ⟨rfl, id⟩ h
    · have h := h.2.2.2.2.2.2.2.2.1 e_k
      refine v_tabIn (off := 119) (tgt := 120) dX11_told_1 (fun q => c1 (Or.inl q)) (fun q => c1 (Or.inr q)) (by rw [e_k]; rfl) (by decide) ?_
      refine v_aload_n dX11_told_120 rfl rfl ?_
      refine u_geti fX11_103 dX11_told_121 sh_66 rfl (by decide) ?_
      exact u_iret dX11_told_124 ⟨rfl, id⟩ h
    · have h := h.2.2.2.2.2.2.2.2.2 e_k
      refine v_tabIn (off := 124) (tgt := 125) dX11_told_1 (fun q => c1 (Or.inl q)) (fun q => c1 (Or.inr q)) (by rw [e_k]; rfl) (by decide) ?_
      refine v_aload_n dX11_told_125 rfl rfl ?_
      refine u_getr fX11_7 dX11_told_126 sh_66 rfl (by decide) (rf_66_0 _) ?_
      refine v_sipush (v := 8528) dX11_told_129 (by decide) ?_
      refine u_iald dX11_told_132 sh_67 (by decide) (by decide) rfl (by decide) ?_
      exact u_iret dX11_told_133 ⟨rfl, id⟩ h
def T_X4_become_21  (τ : kT) (post : kT → Prop) : Prop := (∀ τ1 : kT, τ1 = q_si τ 21 5 (q_i τ 2 5) → (∃ j2 j3 j4 : Nat, (0 : Int32) = nI j2 ∧ (0 : Int32) = nI j3 ∧ (q_i τ1 21 5) = nI j4 ∧ j2 + j4 ≤ 100 ∧ j3 + j4 ≤ 100 ∧ ∀ τ5 : kT, τ5 = q_wi τ1 22 (va_cpy (q_i τ1 3) (q_i τ1 22) j2 j3 j4) → (∃ j6 j7 j8 : Nat, (0 : Int32) = nI j6 ∧ (0 : Int32) = nI j7 ∧ (q_i τ5 21 5) = nI j8 ∧ j6 + j8 ≤ 100 ∧ j7 + j8 ≤ 100 ∧ ∀ τ9 : kT, τ9 = q_wi τ5 23 (va_cpy (q_i τ5 4) (q_i τ5 23) j6 j7 j8) → (∃ j10 j11 j12 : Nat, (0 : Int32) = nI j10 ∧ (0 : Int32) = nI j11 ∧ ((q_i τ9 21 5) * (18 : Int32)) = nI j12 ∧ j10 + j12 ≤ 1800 ∧ j11 + j12 ≤ 1800 ∧ ∀ τ13 : kT, τ13 = q_wi τ9 24 (va_cpy (q_i τ9 5) (q_i τ9 24) j10 j11 j12) → (∃ j14 j15 j16 : Nat, (0 : Int32) = nI j14 ∧ (0 : Int32) = nI j15 ∧ (q_i τ13 21 5) = nI j16 ∧ j14 + j16 ≤ 100 ∧ j15 + j16 ≤ 100 ∧ ∀ τ17 : kT, τ17 = q_wi τ13 25 (va_cpy (q_i τ13 6) (q_i τ13 25) j14 j15 j16) → (∃ j18 j19 j20 : Nat, (0 : Int32) = nI j18 ∧ (0 : Int32) = nI j19 ∧ (q_i τ17 21 5) = nI j20 ∧ j18 + j20 ≤ 100 ∧ j19 + j20 ≤ 100 ∧ ∀ τ21 : kT, τ21 = q_wi τ17 26 (va_cpy (q_i τ17 7) (q_i τ17 26) j18 j19 j20) → (∀ τ22 : kT, τ22 = q_si τ21 21 6 (q_i τ21 2 6) → (∃ j23 j24 j25 : Nat, (0 : Int32) = nI j23 ∧ (0 : Int32) = nI j24 ∧ (18 : Int32) = nI j25 ∧ j23 + j25 ≤ 18 ∧ j24 + j25 ≤ 18 ∧ ∀ τ26 : kT, τ26 = q_wi τ22 27 (va_cpy (q_i τ22 8) (q_i τ22 27) j23 j24 j25) → post τ26))))))))
set_option maxRecDepth 100000 in
set_option maxHeartbeats 4000000 in
theorem v_X4_become_21 {d : Nat}   (τ : kT) (post : kT → Prop) (h : T_X4_become_21   τ post) : U yX4_become cX4_become 2 none (d + 1) kE0 0 [some (.ref 21), some (.ref 2)] [] τ (k_pv post) := by
  unfold T_X4_become_21 at h
  refine v_aload_n dX4_become_0 rfl rfl ?_
  refine v_aload_n dX4_become_1 rfl rfl ?_
  refine u_geti fX4_27 dX4_become_2 sh_2 rfl (by decide) ?_
  refine u_puti pX4_27 ⟨_, rfl⟩ dX4_become_5 sh_21 rfl (by decide) (by decide) (fun τ1 e_τ1 => ?_)
  have h := h τ1 e_τ1
  refine v_aload_n dX4_become_8 rfl rfl ?_
  refine u_getr fX4_9 dX4_become_9 sh_2 rfl (by decide) (rf_2_0 _) ?_
  refine v_iconst (v := 0) dX4_become_12 (by decide) ?_
  refine v_aload_n dX4_become_13 rfl rfl ?_
  refine u_getr fX4_9 dX4_become_14 sh_21 rfl (by decide) (rf_21_0 _) ?_
  refine v_iconst (v := 0) dX4_become_17 (by decide) ?_
  refine v_aload_n dX4_become_18 rfl rfl ?_
  refine u_geti fX4_27 dX4_become_19 sh_21 rfl (by decide) ?_
  obtain ⟨j2, j3, j4, e_1, e_2, e_3, e_4, e_5, h⟩ := h
  refine u_copyi id aX4_69 dX4_become_22 sh_3 sh_22 (by decide) (by decide) (by decide) (by decide) (Nat.le_of_ble_eq_true rfl) e_1 e_2 e_3 e_4 e_5 (fun τ5 e_τ5 => ?_)
  have h := h τ5 e_τ5
  refine v_aload_n dX4_become_25 rfl rfl ?_
  refine u_getr fX4_15 dX4_become_26 sh_2 rfl (by decide) (rf_2_1 _) ?_
  refine v_iconst (v := 0) dX4_become_29 (by decide) ?_
  refine v_aload_n dX4_become_30 rfl rfl ?_
  refine u_getr fX4_15 dX4_become_31 sh_21 rfl (by decide) (rf_21_1 _) ?_
  refine v_iconst (v := 0) dX4_become_34 (by decide) ?_
  refine v_aload_n dX4_become_35 rfl rfl ?_
  refine u_geti fX4_27 dX4_become_36 sh_21 rfl (by decide) ?_
  obtain ⟨j6, j7, j8, e_1, e_2, e_3, e_4, e_5, h⟩ := h
  refine u_copyi id aX4_69 dX4_become_39 sh_4 sh_23 (by decide) (by decide) (by decide) (by decide) (Nat.le_of_ble_eq_true rfl) e_1 e_2 e_3 e_4 e_5 (fun τ9 e_τ9 => ?_)
  have h := h τ9 e_τ9
  refine v_aload_n dX4_become_42 rfl rfl ?_
  refine u_getr fX4_18 dX4_become_43 sh_2 rfl (by decide) (rf_2_2 _) ?_
  refine v_iconst (v := 0) dX4_become_46 (by decide) ?_
  refine v_aload_n dX4_become_47 rfl rfl ?_
  refine u_getr fX4_18 dX4_become_48 sh_21 rfl (by decide) (rf_21_2 _) ?_
  refine v_iconst (v := 0) dX4_become_51 (by decide) ?_
  refine v_aload_n dX4_become_52 rfl rfl ?_
  refine u_geti fX4_27 dX4_become_53 sh_21 rfl (by decide) ?_
  refine v_bipush (v := 18) dX4_become_56 (by decide) ?_
  refine v_imul dX4_become_58 ?_
  obtain ⟨j10, j11, j12, e_1, e_2, e_3, e_4, e_5, h⟩ := h
  refine u_copyi id aX4_69 dX4_become_59 sh_5 sh_24 (by decide) (by decide) (by decide) (by decide) (Nat.le_of_ble_eq_true rfl) e_1 e_2 e_3 e_4 e_5 (fun τ13 e_τ13 => ?_)
  have h := h τ13 e_τ13
  refine v_aload_n dX4_become_62 rfl rfl ?_
  refine u_getr fX4_21 dX4_become_63 sh_2 rfl (by decide) (rf_2_3 _) ?_
  refine v_iconst (v := 0) dX4_become_66 (by decide) ?_
  refine v_aload_n dX4_become_67 rfl rfl ?_
  refine u_getr fX4_21 dX4_become_68 sh_21 rfl (by decide) (rf_21_3 _) ?_
  refine v_iconst (v := 0) dX4_become_71 (by decide) ?_
  refine v_aload_n dX4_become_72 rfl rfl ?_
  refine u_geti fX4_27 dX4_become_73 sh_21 rfl (by decide) ?_
  obtain ⟨j14, j15, j16, e_1, e_2, e_3, e_4, e_5, h⟩ := h
  refine u_copyi id aX4_69 dX4_become_76 sh_6 sh_25 (by decide) (by decide) (by decide) (by decide) (Nat.le_of_ble_eq_true rfl) e_1 e_2 e_3 e_4 e_5 (fun τ17 e_τ17 => ?_)
  have h := h τ17 e_τ17
  refine v_aload_n dX4_become_79 rfl rfl ?_
  refine u_getr fX4_24 dX4_become_80 sh_2 rfl (by decide) (rf_2_4 _) ?_
  refine v_iconst (v := 0) dX4_become_83 (by decide) ?_
  refine v_aload_n dX4_become_84 rfl rfl ?_
  refine u_getr fX4_24 dX4_become_85 sh_21 rfl (by decide) (rf_21_4 _) ?_
  refine v_iconst (v := 0) dX4_become_88 (by decide) ?_
  refine v_aload_n dX4_become_89 rfl rfl ?_
  refine u_geti fX4_27 dX4_become_90 sh_21 rfl (by decide) ?_
  obtain ⟨j18, j19, j20, e_1, e_2, e_3, e_4, e_5, h⟩ := h
  refine u_copyi id aX4_69 dX4_become_93 sh_7 sh_26 (by decide) (by decide) (by decide) (by decide) (Nat.le_of_ble_eq_true rfl) e_1 e_2 e_3 e_4 e_5 (fun τ21 e_τ21 => ?_)
  have h := h τ21 e_τ21
  refine v_aload_n dX4_become_96 rfl rfl ?_
  refine v_aload_n dX4_become_97 rfl rfl ?_
  refine u_geti fX4_31 dX4_become_98 sh_2 rfl (by decide) ?_
  refine u_puti pX4_31 ⟨_, rfl⟩ dX4_become_101 sh_21 rfl (by decide) (by decide) (fun τ22 e_τ22 => ?_)
  have h := h τ22 e_τ22
  refine v_aload_n dX4_become_104 rfl rfl ?_
  refine u_getr fX4_34 dX4_become_105 sh_2 rfl (by decide) (rf_2_7 _) ?_
  refine v_iconst (v := 0) dX4_become_108 (by decide) ?_
  refine v_aload_n dX4_become_109 rfl rfl ?_
  refine u_getr fX4_34 dX4_become_110 sh_21 rfl (by decide) (rf_21_7 _) ?_
  refine v_iconst (v := 0) dX4_become_113 (by decide) ?_
  refine v_bipush (v := 18) dX4_become_114 (by decide) ?_
  obtain ⟨j23, j24, j25, e_1, e_2, e_3, e_4, e_5, h⟩ := h
  refine u_copyi id aX4_69 dX4_become_116 sh_8 sh_27 (by decide) (by decide) (by decide) (by decide) (Nat.le_of_ble_eq_true rfl) e_1 e_2 e_3 e_4 e_5 (fun τ26 e_τ26 => ?_)
  have h := h τ26 e_τ26
  exact u_vret dX4_become_119 ⟨rfl, id⟩ h
def T_X5_become_28  (τ : kT) (post : kT → Prop) : Prop := (∀ τ1 : kT, τ1 = q_si τ 28 5 (q_i τ 9 5) → (∃ j2 j3 j4 : Nat, (0 : Int32) = nI j2 ∧ (0 : Int32) = nI j3 ∧ (q_i τ1 28 5) = nI j4 ∧ j2 + j4 ≤ 100 ∧ j3 + j4 ≤ 100 ∧ ∀ τ5 : kT, τ5 = q_wi τ1 29 (va_cpy (q_i τ1 10) (q_i τ1 29) j2 j3 j4) → (∃ j6 j7 j8 : Nat, (0 : Int32) = nI j6 ∧ (0 : Int32) = nI j7 ∧ ((q_i τ5 28 5) * (18 : Int32)) = nI j8 ∧ j6 + j8 ≤ 1800 ∧ j7 + j8 ≤ 1800 ∧ ∀ τ9 : kT, τ9 = q_wi τ5 30 (va_cpy (q_i τ5 11) (q_i τ5 30) j6 j7 j8) → (∃ j10 j11 j12 : Nat, (0 : Int32) = nI j10 ∧ (0 : Int32) = nI j11 ∧ (q_i τ9 28 5) = nI j12 ∧ j10 + j12 ≤ 100 ∧ j11 + j12 ≤ 100 ∧ ∀ τ13 : kT, τ13 = q_wi τ9 31 (va_cpy (q_i τ9 12) (q_i τ9 31) j10 j11 j12) → (∃ j14 j15 j16 : Nat, (0 : Int32) = nI j14 ∧ (0 : Int32) = nI j15 ∧ (q_i τ13 28 5) = nI j16 ∧ j14 + j16 ≤ 100 ∧ j15 + j16 ≤ 100 ∧ ∀ τ17 : kT, τ17 = q_wl τ13 32 (va_cpy (q_l τ13 13) (q_l τ13 32) j14 j15 j16) → (∃ j18 j19 j20 : Nat, (0 : Int32) = nI j18 ∧ (0 : Int32) = nI j19 ∧ (q_i τ17 28 5) = nI j20 ∧ j18 + j20 ≤ 100 ∧ j19 + j20 ≤ 100 ∧ ∀ τ21 : kT, τ21 = q_wl τ17 33 (va_cpy (q_l τ17 14) (q_l τ17 33) j18 j19 j20) → post τ21))))))
set_option maxRecDepth 100000 in
set_option maxHeartbeats 4000000 in
theorem v_X5_become_28 {d : Nat}   (τ : kT) (post : kT → Prop) (h : T_X5_become_28   τ post) : U yX5_become cX5_become 2 none (d + 1) kE0 0 [some (.ref 28), some (.ref 9)] [] τ (k_pv post) := by
  unfold T_X5_become_28 at h
  refine v_aload_n dX5_become_0 rfl rfl ?_
  refine v_aload_n dX5_become_1 rfl rfl ?_
  refine u_geti fX5_28 dX5_become_2 sh_9 rfl (by decide) ?_
  refine u_puti pX5_28 ⟨_, rfl⟩ dX5_become_5 sh_28 rfl (by decide) (by decide) (fun τ1 e_τ1 => ?_)
  have h := h τ1 e_τ1
  refine v_aload_n dX5_become_8 rfl rfl ?_
  refine u_getr fX5_9 dX5_become_9 sh_9 rfl (by decide) (rf_9_0 _) ?_
  refine v_iconst (v := 0) dX5_become_12 (by decide) ?_
  refine v_aload_n dX5_become_13 rfl rfl ?_
  refine u_getr fX5_9 dX5_become_14 sh_28 rfl (by decide) (rf_28_0 _) ?_
  refine v_iconst (v := 0) dX5_become_17 (by decide) ?_
  refine v_aload_n dX5_become_18 rfl rfl ?_
  refine u_geti fX5_28 dX5_become_19 sh_28 rfl (by decide) ?_
  obtain ⟨j2, j3, j4, e_1, e_2, e_3, e_4, e_5, h⟩ := h
  refine u_copyi id aX5_59 dX5_become_22 sh_10 sh_29 (by decide) (by decide) (by decide) (by decide) (Nat.le_of_ble_eq_true rfl) e_1 e_2 e_3 e_4 e_5 (fun τ5 e_τ5 => ?_)
  have h := h τ5 e_τ5
  refine v_aload_n dX5_become_25 rfl rfl ?_
  refine u_getr fX5_15 dX5_become_26 sh_9 rfl (by decide) (rf_9_1 _) ?_
  refine v_iconst (v := 0) dX5_become_29 (by decide) ?_
  refine v_aload_n dX5_become_30 rfl rfl ?_
  refine u_getr fX5_15 dX5_become_31 sh_28 rfl (by decide) (rf_28_1 _) ?_
  refine v_iconst (v := 0) dX5_become_34 (by decide) ?_
  refine v_aload_n dX5_become_35 rfl rfl ?_
  refine u_geti fX5_28 dX5_become_36 sh_28 rfl (by decide) ?_
  refine v_bipush (v := 18) dX5_become_39 (by decide) ?_
  refine v_imul dX5_become_41 ?_
  obtain ⟨j6, j7, j8, e_1, e_2, e_3, e_4, e_5, h⟩ := h
  refine u_copyi id aX5_59 dX5_become_42 sh_11 sh_30 (by decide) (by decide) (by decide) (by decide) (Nat.le_of_ble_eq_true rfl) e_1 e_2 e_3 e_4 e_5 (fun τ9 e_τ9 => ?_)
  have h := h τ9 e_τ9
  refine v_aload_n dX5_become_45 rfl rfl ?_
  refine u_getr fX5_18 dX5_become_46 sh_9 rfl (by decide) (rf_9_2 _) ?_
  refine v_iconst (v := 0) dX5_become_49 (by decide) ?_
  refine v_aload_n dX5_become_50 rfl rfl ?_
  refine u_getr fX5_18 dX5_become_51 sh_28 rfl (by decide) (rf_28_2 _) ?_
  refine v_iconst (v := 0) dX5_become_54 (by decide) ?_
  refine v_aload_n dX5_become_55 rfl rfl ?_
  refine u_geti fX5_28 dX5_become_56 sh_28 rfl (by decide) ?_
  obtain ⟨j10, j11, j12, e_1, e_2, e_3, e_4, e_5, h⟩ := h
  refine u_copyi id aX5_59 dX5_become_59 sh_12 sh_31 (by decide) (by decide) (by decide) (by decide) (Nat.le_of_ble_eq_true rfl) e_1 e_2 e_3 e_4 e_5 (fun τ13 e_τ13 => ?_)
  have h := h τ13 e_τ13
  refine v_aload_n dX5_become_62 rfl rfl ?_
  refine u_getr fX5_21 dX5_become_63 sh_9 rfl (by decide) (rf_9_3 _) ?_
  refine v_iconst (v := 0) dX5_become_66 (by decide) ?_
  refine v_aload_n dX5_become_67 rfl rfl ?_
  refine u_getr fX5_21 dX5_become_68 sh_28 rfl (by decide) (rf_28_3 _) ?_
  refine v_iconst (v := 0) dX5_become_71 (by decide) ?_
  refine v_aload_n dX5_become_72 rfl rfl ?_
  refine u_geti fX5_28 dX5_become_73 sh_28 rfl (by decide) ?_
  obtain ⟨j14, j15, j16, e_1, e_2, e_3, e_4, e_5, h⟩ := h
  refine u_copyl id aX5_59 dX5_become_76 sh_13 sh_32 (by decide) (by decide) (by decide) (by decide) (Nat.le_of_ble_eq_true rfl) e_1 e_2 e_3 e_4 e_5 (fun τ17 e_τ17 => ?_)
  have h := h τ17 e_τ17
  refine v_aload_n dX5_become_79 rfl rfl ?_
  refine u_getr fX5_25 dX5_become_80 sh_9 rfl (by decide) (rf_9_4 _) ?_
  refine v_iconst (v := 0) dX5_become_83 (by decide) ?_
  refine v_aload_n dX5_become_84 rfl rfl ?_
  refine u_getr fX5_25 dX5_become_85 sh_28 rfl (by decide) (rf_28_4 _) ?_
  refine v_iconst (v := 0) dX5_become_88 (by decide) ?_
  refine v_aload_n dX5_become_89 rfl rfl ?_
  refine u_geti fX5_28 dX5_become_90 sh_28 rfl (by decide) ?_
  obtain ⟨j18, j19, j20, e_1, e_2, e_3, e_4, e_5, h⟩ := h
  refine u_copyl id aX5_59 dX5_become_93 sh_14 sh_33 (by decide) (by decide) (by decide) (by decide) (Nat.le_of_ble_eq_true rfl) e_1 e_2 e_3 e_4 e_5 (fun τ21 e_τ21 => ?_)
  have h := h τ21 e_τ21
  exact u_vret dX5_become_96 ⟨rfl, id⟩ h
def T_X0_become_34  (τ : kT) (post : kT → Prop) : Prop := (∀ τ1 : kT, τ1 = q_si τ 34 3 (q_i τ 15 3) → (∃ j2 j3 j4 : Nat, (0 : Int32) = nI j2 ∧ (0 : Int32) = nI j3 ∧ (q_i τ1 34 3) = nI j4 ∧ j2 + j4 ≤ 12 ∧ j3 + j4 ≤ 12 ∧ ∀ τ5 : kT, τ5 = q_wi τ1 35 (va_cpy (q_i τ1 16) (q_i τ1 35) j2 j3 j4) → (∃ j6 j7 j8 : Nat, (0 : Int32) = nI j6 ∧ (0 : Int32) = nI j7 ∧ (q_i τ5 34 3) = nI j8 ∧ j6 + j8 ≤ 12 ∧ j7 + j8 ≤ 12 ∧ ∀ τ9 : kT, τ9 = q_wi τ5 36 (va_cpy (q_i τ5 17) (q_i τ5 36) j6 j7 j8) → (∃ j10 j11 j12 : Nat, (0 : Int32) = nI j10 ∧ (0 : Int32) = nI j11 ∧ ((q_i τ9 34 3) * (20 : Int32)) = nI j12 ∧ j10 + j12 ≤ 240 ∧ j11 + j12 ≤ 240 ∧ ∀ τ13 : kT, τ13 = q_wi τ9 37 (va_cpy (q_i τ9 18) (q_i τ9 37) j10 j11 j12) → post τ13))))
set_option maxRecDepth 100000 in
set_option maxHeartbeats 4000000 in
theorem v_X0_become_34 {d : Nat}   (τ : kT) (post : kT → Prop) (h : T_X0_become_34   τ post) : U yX0_become cX0_become 2 none (d + 1) kE0 0 [some (.ref 34), some (.ref 15)] [] τ (k_pv post) := by
  unfold T_X0_become_34 at h
  refine v_aload_n dX0_become_0 rfl rfl ?_
  refine v_aload_n dX0_become_1 rfl rfl ?_
  refine u_geti fX0_21 dX0_become_2 sh_15 rfl (by decide) ?_
  refine u_puti pX0_21 ⟨_, rfl⟩ dX0_become_5 sh_34 rfl (by decide) (by decide) (fun τ1 e_τ1 => ?_)
  have h := h τ1 e_τ1
  refine v_aload_n dX0_become_8 rfl rfl ?_
  refine u_getr fX0_9 dX0_become_9 sh_15 rfl (by decide) (rf_15_0 _) ?_
  refine v_iconst (v := 0) dX0_become_12 (by decide) ?_
  refine v_aload_n dX0_become_13 rfl rfl ?_
  refine u_getr fX0_9 dX0_become_14 sh_34 rfl (by decide) (rf_34_0 _) ?_
  refine v_iconst (v := 0) dX0_become_17 (by decide) ?_
  refine v_aload_n dX0_become_18 rfl rfl ?_
  refine u_geti fX0_21 dX0_become_19 sh_34 rfl (by decide) ?_
  obtain ⟨j2, j3, j4, e_1, e_2, e_3, e_4, e_5, h⟩ := h
  refine u_copyi id aX0_41 dX0_become_22 sh_16 sh_35 (by decide) (by decide) (by decide) (by decide) (Nat.le_of_ble_eq_true rfl) e_1 e_2 e_3 e_4 e_5 (fun τ5 e_τ5 => ?_)
  have h := h τ5 e_τ5
  refine v_aload_n dX0_become_25 rfl rfl ?_
  refine u_getr fX0_15 dX0_become_26 sh_15 rfl (by decide) (rf_15_1 _) ?_
  refine v_iconst (v := 0) dX0_become_29 (by decide) ?_
  refine v_aload_n dX0_become_30 rfl rfl ?_
  refine u_getr fX0_15 dX0_become_31 sh_34 rfl (by decide) (rf_34_1 _) ?_
  refine v_iconst (v := 0) dX0_become_34 (by decide) ?_
  refine v_aload_n dX0_become_35 rfl rfl ?_
  refine u_geti fX0_21 dX0_become_36 sh_34 rfl (by decide) ?_
  obtain ⟨j6, j7, j8, e_1, e_2, e_3, e_4, e_5, h⟩ := h
  refine u_copyi id aX0_41 dX0_become_39 sh_17 sh_36 (by decide) (by decide) (by decide) (by decide) (Nat.le_of_ble_eq_true rfl) e_1 e_2 e_3 e_4 e_5 (fun τ9 e_τ9 => ?_)
  have h := h τ9 e_τ9
  refine v_aload_n dX0_become_42 rfl rfl ?_
  refine u_getr fX0_18 dX0_become_43 sh_15 rfl (by decide) (rf_15_2 _) ?_
  refine v_iconst (v := 0) dX0_become_46 (by decide) ?_
  refine v_aload_n dX0_become_47 rfl rfl ?_
  refine u_getr fX0_18 dX0_become_48 sh_34 rfl (by decide) (rf_34_2 _) ?_
  refine v_iconst (v := 0) dX0_become_51 (by decide) ?_
  refine v_aload_n dX0_become_52 rfl rfl ?_
  refine u_geti fX0_21 dX0_become_53 sh_34 rfl (by decide) ?_
  refine v_bipush (v := 20) dX0_become_56 (by decide) ?_
  refine v_imul dX0_become_58 ?_
  obtain ⟨j10, j11, j12, e_1, e_2, e_3, e_4, e_5, h⟩ := h
  refine u_copyi id aX0_41 dX0_become_59 sh_18 sh_37 (by decide) (by decide) (by decide) (by decide) (Nat.le_of_ble_eq_true rfl) e_1 e_2 e_3 e_4 e_5 (fun τ13 e_τ13 => ?_)
  have h := h τ13 e_τ13
  exact u_vret dX0_become_62 ⟨rfl, id⟩ h
def T_X6_become_20  (τ : kT) (post : kT → Prop) : Prop := (T_X4_become_21  τ (fun τ2 => (T_X5_become_28  τ2 (fun τ4 => (T_X0_become_34  τ4 (fun τ6 => (∃ j7 j8 j9 : Nat, (0 : Int32) = nI j7 ∧ (0 : Int32) = nI j8 ∧ (q_i τ6 1 4) = nI j9 ∧ j7 + j9 ≤ 40 ∧ j8 + j9 ≤ 40 ∧ ∀ τ10 : kT, τ10 = q_wi τ6 38 (va_cpy (q_i τ6 19) (q_i τ6 38) j7 j8 j9) → (∀ τ11 : kT, τ11 = q_si τ10 20 4 (q_i τ10 1 4) → (∀ τ12 : kT, τ12 = q_si τ11 20 5 (q_i τ11 1 5) → (∀ τ13 : kT, τ13 = q_si τ12 20 6 (q_i τ12 1 6) → post τ13))))))))))
set_option maxRecDepth 100000 in
set_option maxHeartbeats 4000000 in
theorem v_X6_become_20 {d : Nat}   (τ : kT) (post : kT → Prop) (h : T_X6_become_20   τ post) : U yX6_become cX6_become 2 none (d + 2) kE0 0 [some (.ref 20), some (.ref 1)] [] τ (k_pv post) := by
  unfold T_X6_become_20 at h
  refine v_aload_n dX6_become_0 rfl rfl ?_
  refine u_getr fX6_12 dX6_become_1 sh_20 rfl (by decide) (rf_20_0 _) ?_
  refine v_aload_n dX6_become_4 rfl rfl ?_
  refine u_getr fX6_12 dX6_become_5 sh_1 rfl (by decide) (rf_1_0 _) ?_
  refine u_callV [.ref 2] mX4_become iX4_become lX6_46 dX6_become_8 sh_21 rfl rfl (by decide) ⟨rfl, rfl, id⟩ rfl rfl (Nat.le_of_ble_eq_true rfl) (Nat.le_of_ble_eq_true rfl) (v_X4_become_21  _ _ h) ?_
  rintro _ τ2 ⟨rfl, h⟩
  refine v_aload_n dX6_become_11 rfl rfl ?_
  refine u_getr fX6_21 dX6_become_12 sh_20 rfl (by decide) (rf_20_1 _) ?_
  refine v_aload_n dX6_become_15 rfl rfl ?_
  refine u_getr fX6_21 dX6_become_16 sh_1 rfl (by decide) (rf_1_1 _) ?_
  refine u_callV [.ref 9] mX5_become iX5_become lX6_50 dX6_become_19 sh_28 rfl rfl (by decide) ⟨rfl, rfl, id⟩ rfl rfl (Nat.le_of_ble_eq_true rfl) (Nat.le_of_ble_eq_true rfl) (v_X5_become_28  _ _ h) ?_
  rintro _ τ4 ⟨rfl, h⟩
  refine v_aload_n dX6_become_22 rfl rfl ?_
  refine u_getr fX6_28 dX6_become_23 sh_20 rfl (by decide) (rf_20_2 _) ?_
  refine v_aload_n dX6_become_26 rfl rfl ?_
  refine u_getr fX6_28 dX6_become_27 sh_1 rfl (by decide) (rf_1_2 _) ?_
  refine u_callV [.ref 15] mX0_become iX0_become lX6_53 dX6_become_30 sh_34 rfl rfl (by decide) ⟨rfl, rfl, id⟩ rfl rfl (Nat.le_of_ble_eq_true rfl) (Nat.le_of_ble_eq_true rfl) (v_X0_become_34  _ _ h) ?_
  rintro _ τ6 ⟨rfl, h⟩
  refine v_aload_n dX6_become_33 rfl rfl ?_
  refine u_getr fX6_32 dX6_become_34 sh_1 rfl (by decide) (rf_1_3 _) ?_
  refine v_iconst (v := 0) dX6_become_37 (by decide) ?_
  refine v_aload_n dX6_become_38 rfl rfl ?_
  refine u_getr fX6_32 dX6_become_39 sh_20 rfl (by decide) (rf_20_3 _) ?_
  refine v_iconst (v := 0) dX6_become_42 (by decide) ?_
  refine v_aload_n dX6_become_43 rfl rfl ?_
  refine u_geti fX6_36 dX6_become_44 sh_1 rfl (by decide) ?_
  obtain ⟨j7, j8, j9, e_1, e_2, e_3, e_4, e_5, h⟩ := h
  refine u_copyi id aX6_56 dX6_become_47 sh_19 sh_38 (by decide) (by decide) (by decide) (by decide) (Nat.le_of_ble_eq_true rfl) e_1 e_2 e_3 e_4 e_5 (fun τ10 e_τ10 => ?_)
  have h := h τ10 e_τ10
  refine v_aload_n dX6_become_50 rfl rfl ?_
  refine v_aload_n dX6_become_51 rfl rfl ?_
  refine u_geti fX6_36 dX6_become_52 sh_1 rfl (by decide) ?_
  refine u_puti pX6_36 ⟨_, rfl⟩ dX6_become_55 sh_20 rfl (by decide) (by decide) (fun τ11 e_τ11 => ?_)
  have h := h τ11 e_τ11
  refine v_aload_n dX6_become_58 rfl rfl ?_
  refine v_aload_n dX6_become_59 rfl rfl ?_
  refine u_geti fX6_40 dX6_become_60 sh_1 rfl (by decide) ?_
  refine u_puti pX6_40 ⟨_, rfl⟩ dX6_become_63 sh_20 rfl (by decide) (by decide) (fun τ12 e_τ12 => ?_)
  have h := h τ12 e_τ12
  refine v_aload_n dX6_become_66 rfl rfl ?_
  refine v_aload_n dX6_become_67 rfl rfl ?_
  refine u_geti fX6_43 dX6_become_68 sh_1 rfl (by decide) ?_
  refine u_puti pX6_43 ⟨_, rfl⟩ dX6_become_71 sh_20 rfl (by decide) (by decide) (fun τ13 e_τ13 => ?_)
  have h := h τ13 e_τ13
  exact u_vret dX6_become_74 ⟨rfl, id⟩ h
def T_X10_remember  (τ : kT) (post : kT → Prop) : Prop := (T_X6_become_20  τ (fun τ2 => (∀ τ3 : kT, τ3 = q_si τ2 0 2 (1 : Int32) → post τ3)))
set_option maxRecDepth 100000 in
set_option maxHeartbeats 4000000 in
theorem v_X10_remember {d : Nat}   (τ : kT) (post : kT → Prop) (h : T_X10_remember   τ post) : U yX10_remember cX10_remember 1 none (d + 3) kE0 0 [some (.ref 0)] [] τ (k_pv post) := by
  unfold T_X10_remember at h
  refine v_aload_n dX10_remember_0 rfl rfl ?_
  refine u_getr fX10_16 dX10_remember_1 sh_0 rfl (by decide) (rf_0_1 _) ?_
  refine v_aload_n dX10_remember_4 rfl rfl ?_
  refine u_getr fX10_10 dX10_remember_5 sh_0 rfl (by decide) (rf_0_0 _) ?_
  refine u_callV [.ref 1] mX6_become iX6_become lX10_354 dX10_remember_8 sh_20 rfl rfl (by decide) ⟨rfl, rfl, id⟩ rfl rfl (Nat.le_of_ble_eq_true rfl) (Nat.le_of_ble_eq_true rfl) (v_X6_become_20  _ _ h) ?_
  rintro _ τ2 ⟨rfl, h⟩
  refine v_aload_n dX10_remember_11 rfl rfl ?_
  refine v_iconst (v := 1) dX10_remember_12 (by decide) ?_
  refine u_puti pX10_19 (by first | exact Or.inl rfl | exact Or.inr rfl) dX10_remember_13 sh_0 rfl (by decide) (by decide) (fun τ3 e_τ3 => ?_)
  have h := h τ3 e_τ3
  exact u_vret dX10_remember_16 ⟨rfl, id⟩ h
def T_X4_has (a1 : Int32) (τ : kT) (post : Int32 → kT → Prop) : Prop := ((a1 < 0 → post (0 : Int32) τ) ∧ (¬ a1 < 0 → (((q_i τ 2 5) ≤ a1 → post (0 : Int32) τ) ∧ (¬ (q_i τ 2 5) ≤ a1 → post (1 : Int32) τ))))
set_option maxRecDepth 100000 in
set_option maxHeartbeats 4000000 in
theorem v_X4_has {d : Nat}  (a1 : Int32) (τ : kT) (post : Int32 → kT → Prop) (h : T_X4_has  a1 τ post) : U yX4_has cX4_has 2 (some .boolean) (d + 0) kE0 0 [some (.ref 2), some (.int a1)] [] τ (k_pi post) := by
  unfold T_X4_has at h
  refine v_iload_n dX4_has_0 rfl rfl ?_
  refine v_if_lt (tgt := 16) dX4_has_1 (by decide) (fun c1 => ?_) (fun c1 => ?_)
  · have h := h.1 c1
    refine v_iconst (v := 0) dX4_has_16 (by decide) ?_
    exact u_zret dX4_has_17 rfl ⟨rfl, id⟩ h
  · have h := h.2 c1
    refine v_iload_n dX4_has_4 rfl rfl ?_
    refine v_aload_n dX4_has_5 rfl rfl ?_
    refine u_geti fX4_27 dX4_has_6 sh_2 rfl (by decide) ?_
    refine v_icmp_ge (tgt := 16) dX4_has_9 (by decide) (fun c2 => ?_) (fun c2 => ?_)
    · have h := h.1 c2
      refine v_iconst (v := 0) dX4_has_16 (by decide) ?_
      exact u_zret dX4_has_17 rfl ⟨rfl, id⟩ h
    · have h := h.2 c2
      refine v_iconst (v := 1) dX4_has_12 (by decide) ?_
      refine v_goto (tgt := 17) dX4_has_13 (by decide) ?_
      exact u_zret dX4_has_17 rfl ⟨rfl, id⟩ h
def T_X4_hasChamber (a1 : Int32) (a2 : Int32) (τ : kT) (post : Int32 → kT → Prop) : Prop := (T_X4_has a1 τ (fun r1 τ2 => ((r1 = 0 → post (0 : Int32) τ2) ∧ (¬ r1 = 0 → ((a2 < 0 → post (0 : Int32) τ2) ∧ (¬ a2 < 0 → (∃ j5 : Nat, a1 = nI j5 ∧ j5 < 100 ∧ (((q_i τ2 4 j5) ≤ a2 → post (0 : Int32) τ2) ∧ (¬ (q_i τ2 4 j5) ≤ a2 → post (1 : Int32) τ2)))))))))
set_option maxRecDepth 100000 in
set_option maxHeartbeats 4000000 in
theorem v_X4_hasChamber {d : Nat}  (a1 : Int32) (a2 : Int32) (τ : kT) (post : Int32 → kT → Prop) (h : T_X4_hasChamber  a1 a2 τ post) : U yX4_hasChamber cX4_hasChamber 3 (some .boolean) (d + 1) kE0 0 [some (.ref 2), some (.int a1), some (.int a2)] [] τ (k_pi post) := by
  unfold T_X4_hasChamber at h
  refine v_aload_n dX4_hasChamber_0 rfl rfl ?_
  refine v_iload_n dX4_hasChamber_1 rfl rfl ?_
  refine u_callV [.int a1] mX4_has iX4_has lX4_37 dX4_hasChamber_2 sh_2 rfl rfl (by decide) ⟨rfl, rfl, id⟩ rfl rfl (Nat.le_of_ble_eq_true rfl) (Nat.le_of_ble_eq_true rfl) (v_X4_has a1 _ _ h) ?_
  rintro _ τ2 ⟨r1, rfl, h⟩
  refine v_if_eq (tgt := 26) dX4_hasChamber_5 (by decide) (fun c3 => ?_) (fun c3 => ?_)
  · have h := h.1 c3
    refine v_iconst (v := 0) dX4_hasChamber_26 (by decide) ?_
    exact u_zret dX4_hasChamber_27 rfl ⟨rfl, id⟩ h
  · have h := h.2 c3
    refine v_iload_n dX4_hasChamber_8 rfl rfl ?_
    refine v_if_lt (tgt := 26) dX4_hasChamber_9 (by decide) (fun c4 => ?_) (fun c4 => ?_)
    · have h := h.1 c4
      refine v_iconst (v := 0) dX4_hasChamber_26 (by decide) ?_
      exact u_zret dX4_hasChamber_27 rfl ⟨rfl, id⟩ h
    · have h := h.2 c4
      refine v_iload_n dX4_hasChamber_12 rfl rfl ?_
      refine v_aload_n dX4_hasChamber_13 rfl rfl ?_
      refine u_getr fX4_15 dX4_hasChamber_14 sh_2 rfl (by decide) (rf_2_1 _) ?_
      refine v_iload_n dX4_hasChamber_17 rfl rfl ?_
      obtain ⟨j5, e_j5, l_j5, h⟩ := h
      refine u_iald dX4_hasChamber_18 sh_4 (by decide) (by decide) e_j5 l_j5 ?_
      refine v_icmp_ge (tgt := 26) dX4_hasChamber_19 (by decide) (fun c6 => ?_) (fun c6 => ?_)
      · have h := h.1 c6
        refine v_iconst (v := 0) dX4_hasChamber_26 (by decide) ?_
        exact u_zret dX4_hasChamber_27 rfl ⟨rfl, id⟩ h
      · have h := h.2 c6
        refine v_iconst (v := 1) dX4_hasChamber_22 (by decide) ?_
        refine v_goto (tgt := 27) dX4_hasChamber_23 (by decide) ?_
        exact u_zret dX4_hasChamber_27 rfl ⟨rfl, id⟩ h
def T_X4_setHeights (a1 : Int32) (a2 : Int32) (a3 : Int32) (τ : kT) (post : kT → Prop) : Prop := (T_X4_hasChamber a1 a2 τ (fun r1 τ2 => ((r1 = 0 → post τ2) ∧ (¬ r1 = 0 → (∃ j4 : Nat, ((a1 * (18 : Int32)) + a2) = nI j4 ∧ j4 < 1800 ∧ (∀ τ5 : kT, τ5 = q_si τ2 5 j4 a3 → post τ5))))))
set_option maxRecDepth 100000 in
set_option maxHeartbeats 4000000 in
theorem v_X4_setHeights {d : Nat}  (a1 : Int32) (a2 : Int32) (a3 : Int32) (τ : kT) (post : kT → Prop) (h : T_X4_setHeights  a1 a2 a3 τ post) : U yX4_setHeights cX4_setHeights 4 none (d + 2) kE0 0 [some (.ref 2), some (.int a1), some (.int a2), some (.int a3)] [] τ (k_pv post) := by
  unfold T_X4_setHeights at h
  refine v_aload_n dX4_setHeights_0 rfl rfl ?_
  refine v_iload_n dX4_setHeights_1 rfl rfl ?_
  refine v_iload_n dX4_setHeights_2 rfl rfl ?_
  refine u_callV [.int a1, .int a2] mX4_hasChamber iX4_hasChamber lX4_58 dX4_setHeights_3 sh_2 rfl rfl (by decide) ⟨rfl, rfl, id⟩ rfl rfl (Nat.le_of_ble_eq_true rfl) (Nat.le_of_ble_eq_true rfl) (v_X4_hasChamber a1 a2 _ _ h) ?_
  rintro _ τ2 ⟨r1, rfl, h⟩
  refine v_if_eq (tgt := 21) dX4_setHeights_6 (by decide) (fun c3 => ?_) (fun c3 => ?_)
  · have h := h.1 c3
    exact u_vret dX4_setHeights_21 ⟨rfl, id⟩ h
  · have h := h.2 c3
    refine v_aload_n dX4_setHeights_9 rfl rfl ?_
    refine u_getr fX4_18 dX4_setHeights_10 sh_2 rfl (by decide) (rf_2_2 _) ?_
    refine v_iload_n dX4_setHeights_13 rfl rfl ?_
    refine v_bipush (v := 18) dX4_setHeights_14 (by decide) ?_
    refine v_imul dX4_setHeights_16 ?_
    refine v_iload_n dX4_setHeights_17 rfl rfl ?_
    refine v_iadd dX4_setHeights_18 ?_
    refine v_iload_n dX4_setHeights_19 rfl rfl ?_
    obtain ⟨j4, e_j4, l_j4, h⟩ := h
    refine u_iast dX4_setHeights_20 sh_5 (by decide) (by decide) e_j4 l_j4 (fun τ5 e_τ5 => ?_)
    have h := h τ5 e_τ5
    exact u_vret dX4_setHeights_21 ⟨rfl, id⟩ h
def L_X4_add_46  (f1 : Int32) (f2 : Int32) (f3 : Int32) (K : Int32 → kT → Prop) (post : Int32 → kT → Prop) : Nat → Int32 → kT → Prop
  | 0, _, _ => False
  | n + 1, x4, τ => ((f2 ≤ x4 → K x4 τ) ∧ (¬ f2 ≤ x4 → (T_X4_setHeights f3 x4 (0 : Int32) τ (fun τ13 => (∀ v14 : Int32, v14 = x4 + (1 : Int32) → L_X4_add_46 f1 f2 f3 K post n v14 τ13)))))
def T_X4_add (a1 : Int32) (a2 : Int32) (τ : kT) (post : Int32 → kT → Prop) : Prop := (∀ v1 : Int32, v1 = (q_i τ 2 5) → (∀ τ2 : kT, τ2 = q_si τ 2 5 ((q_i τ 2 5) + (1 : Int32)) → (∃ j3 : Nat, v1 = nI j3 ∧ j3 < 100 ∧ (∀ τ4 : kT, τ4 = q_si τ2 3 j3 a1 → (∃ j5 : Nat, v1 = nI j5 ∧ j5 < 100 ∧ (∀ τ6 : kT, τ6 = q_si τ4 4 j5 a2 → (∃ j7 : Nat, v1 = nI j7 ∧ j7 < 100 ∧ (∀ τ8 : kT, τ8 = q_si τ6 6 j7 (-1 : Int32) → (∃ j9 : Nat, v1 = nI j9 ∧ j9 < 100 ∧ (∀ τ10 : kT, τ10 = q_si τ8 7 j9 (-1 : Int32) → (∃ m15 : Nat, L_X4_add_46  a1 a2 v1 (fun v16 τ17 => post v1 τ17) post m15 (0 : Int32) τ10)))))))))))
set_option maxRecDepth 100000 in
set_option maxHeartbeats 4000000 in
theorem l_X4_add_46 {d : Nat}  (f1 : Int32) (f2 : Int32) (f3 : Int32) {K : Int32 → kT → Prop} {post : Int32 → kT → Prop} (hK : ∀ (x4 : Int32) (τ : kT), K x4 τ → U yX4_add cX4_add 5 (some .int) (d + 3) kE0 66 [some (.ref 2), some (.int f1), some (.int f2), some (.int f3), some (.int x4)] [] τ (k_pi post)) : ∀ (n : Nat) (x4 : Int32) (τ : kT), L_X4_add_46  f1 f2 f3 K post n x4 τ → U yX4_add cX4_add 5 (some .int) (d + 3) kE0 46 [some (.ref 2), some (.int f1), some (.int f2), some (.int f3), some (.int x4)] [] τ (k_pi post) := by
  intro n
  induction n with
  | zero => intro x4 τ h; exact h.elim
  | succ n ih =>
    intro x4 τ h
    unfold L_X4_add_46 at h
    refine v_iload dX4_add_46 rfl ?_
    refine v_iload_n dX4_add_48 rfl rfl ?_
    refine v_icmp_ge (tgt := 66) dX4_add_49 (by decide) (fun c11 => ?_) (fun c11 => ?_)
    · have h := h.1 c11
      exact hK x4 _ h
    · have h := h.2 c11
      refine v_aload_n dX4_add_52 rfl rfl ?_
      refine v_iload_n dX4_add_53 rfl rfl ?_
      refine v_iload dX4_add_54 rfl ?_
      refine v_iconst (v := 0) dX4_add_56 (by decide) ?_
      refine u_callV [.int f3, .int x4, .int (0 : Int32)] mX4_setHeights iX4_setHeights lX4_61 dX4_add_57 sh_2 rfl rfl (by decide) ⟨rfl, rfl, id⟩ rfl rfl (Nat.le_of_ble_eq_true rfl) (Nat.le_of_ble_eq_true rfl) (v_X4_setHeights f3 x4 (0 : Int32) _ _ h) ?_
      rintro _ τ13 ⟨rfl, h⟩
      obtain ⟨v14, e_v14⟩ : ∃ z : Int32, z = x4 + (1 : Int32) := ⟨_, rfl⟩
      have h := h v14 e_v14
      refine v_iinc (v := v14) dX4_add_60 rfl (by rw [e_v14]; rfl) (by decide) rfl ?_
      refine v_ls (ls2 := [some (.ref 2), some (.int f1), some (.int f2), some (.int f3), some (.int v14)]) rfl ?_
      refine v_goto (tgt := 46) dX4_add_63 (by decide) ?_
      exact ih v14 _ h
set_option maxRecDepth 100000 in
set_option maxHeartbeats 4000000 in
theorem v_X4_add {d : Nat}  (a1 : Int32) (a2 : Int32) (τ : kT) (post : Int32 → kT → Prop) (h : T_X4_add  a1 a2 τ post) : U yX4_add cX4_add 5 (some .int) (d + 3) kE0 0 [some (.ref 2), some (.int a1), some (.int a2), none, none] [] τ (k_pi post) := by
  unfold T_X4_add at h
  refine v_aload_n dX4_add_0 rfl rfl ?_
  refine u_geti fX4_27 dX4_add_1 sh_2 rfl (by decide) ?_
  refine v_topi (fun v1 e_v1 => ?_)
  have h := h v1 e_v1
  refine v_istore_n dX4_add_4 rfl (by decide) rfl ?_
  refine v_ls (ls2 := [some (.ref 2), some (.int a1), some (.int a2), some (.int v1), none]) rfl ?_
  refine v_aload_n dX4_add_5 rfl rfl ?_
  refine v_dup dX4_add_6 rfl ?_
  refine u_geti fX4_27 dX4_add_7 sh_2 rfl (by decide) ?_
  refine v_iconst (v := 1) dX4_add_10 (by decide) ?_
  refine v_iadd dX4_add_11 ?_
  refine u_puti pX4_27 ⟨_, rfl⟩ dX4_add_12 sh_2 rfl (by decide) (by decide) (fun τ2 e_τ2 => ?_)
  have h := h τ2 e_τ2
  refine v_aload_n dX4_add_15 rfl rfl ?_
  refine u_getr fX4_9 dX4_add_16 sh_2 rfl (by decide) (rf_2_0 _) ?_
  refine v_iload_n dX4_add_19 rfl rfl ?_
  refine v_iload_n dX4_add_20 rfl rfl ?_
  obtain ⟨j3, e_j3, l_j3, h⟩ := h
  refine u_iast dX4_add_21 sh_3 (by decide) (by decide) e_j3 l_j3 (fun τ4 e_τ4 => ?_)
  have h := h τ4 e_τ4
  refine v_aload_n dX4_add_22 rfl rfl ?_
  refine u_getr fX4_15 dX4_add_23 sh_2 rfl (by decide) (rf_2_1 _) ?_
  refine v_iload_n dX4_add_26 rfl rfl ?_
  refine v_iload_n dX4_add_27 rfl rfl ?_
  obtain ⟨j5, e_j5, l_j5, h⟩ := h
  refine u_iast dX4_add_28 sh_4 (by decide) (by decide) e_j5 l_j5 (fun τ6 e_τ6 => ?_)
  have h := h τ6 e_τ6
  refine v_aload_n dX4_add_29 rfl rfl ?_
  refine u_getr fX4_21 dX4_add_30 sh_2 rfl (by decide) (rf_2_3 _) ?_
  refine v_iload_n dX4_add_33 rfl rfl ?_
  refine v_iconst (v := -1) dX4_add_34 (by decide) ?_
  obtain ⟨j7, e_j7, l_j7, h⟩ := h
  refine u_iast dX4_add_35 sh_6 (by decide) (by decide) e_j7 l_j7 (fun τ8 e_τ8 => ?_)
  have h := h τ8 e_τ8
  refine v_aload_n dX4_add_36 rfl rfl ?_
  refine u_getr fX4_24 dX4_add_37 sh_2 rfl (by decide) (rf_2_4 _) ?_
  refine v_iload_n dX4_add_40 rfl rfl ?_
  refine v_iconst (v := -1) dX4_add_41 (by decide) ?_
  obtain ⟨j9, e_j9, l_j9, h⟩ := h
  refine u_iast dX4_add_42 sh_7 (by decide) (by decide) e_j9 l_j9 (fun τ10 e_τ10 => ?_)
  have h := h τ10 e_τ10
  refine v_iconst (v := 0) dX4_add_43 (by decide) ?_
  refine v_istore dX4_add_44 (by decide) rfl ?_
  refine v_ls (ls2 := [some (.ref 2), some (.int a1), some (.int a2), some (.int v1), some (.int (0 : Int32))]) rfl ?_
  obtain ⟨m15, h⟩ := h
  refine l_X4_add_46  a1 a2 v1 (fun v16 τ17 h => ?_) m15 (0 : Int32) _ h
  refine v_iload_n dX4_add_66 rfl rfl ?_
  exact u_iret dX4_add_67 ⟨rfl, id⟩ h
def T_X10_makeCylinder (a1 : Int32) (a2 : Int32) (τ : kT) (post : Int32 → kT → Prop) : Prop := ((a1 < 0 → post (-2 : Int32) τ) ∧ (¬ a1 < 0 → (((3 : Int32) < a1 → post (-2 : Int32) τ) ∧ (¬ (3 : Int32) < a1 → ((a2 ≤ (18 : Int32) → (((q_i τ 2 5) < (100 : Int32) → ((0 ≤ a2 → (T_X10_remember  τ (fun τ7 => (T_X4_add a1 a2 τ7 (fun r8 τ9 => post r8 τ9))))) ∧ (¬ 0 ≤ a2 → post (-15 : Int32) τ))) ∧ (¬ (q_i τ 2 5) < (100 : Int32) → post (-4 : Int32) τ))) ∧ (¬ a2 ≤ (18 : Int32) → post (-2 : Int32) τ))))))
set_option maxRecDepth 100000 in
set_option maxHeartbeats 4000000 in
theorem v_X10_makeCylinder {d : Nat}  (a1 : Int32) (a2 : Int32) (τ : kT) (post : Int32 → kT → Prop) (h : T_X10_makeCylinder  a1 a2 τ post) : U yX10_makeCylinder cX10_makeCylinder 3 (some .int) (d + 4) kE0 0 [some (.ref 0), some (.int a1), some (.int a2)] [] τ (k_pi post) := by
  unfold T_X10_makeCylinder at h
  refine v_iload_n dX10_makeCylinder_0 rfl rfl ?_
  refine v_if_lt (tgt := 15) dX10_makeCylinder_1 (by decide) (fun c1 => ?_) (fun c1 => ?_)
  · have h := h.1 c1
    refine v_bipush (v := -2) dX10_makeCylinder_15 (by decide) ?_
    exact u_iret dX10_makeCylinder_17 ⟨rfl, id⟩ h
  · have h := h.2 c1
    refine v_iload_n dX10_makeCylinder_4 rfl rfl ?_
    refine v_iconst (v := 3) dX10_makeCylinder_5 (by decide) ?_
    refine v_icmp_gt (tgt := 15) dX10_makeCylinder_6 (by decide) (fun c2 => ?_) (fun c2 => ?_)
    · have h := h.1 c2
      refine v_bipush (v := -2) dX10_makeCylinder_15 (by decide) ?_
      exact u_iret dX10_makeCylinder_17 ⟨rfl, id⟩ h
    · have h := h.2 c2
      refine v_iload_n dX10_makeCylinder_9 rfl rfl ?_
      refine v_bipush (v := 18) dX10_makeCylinder_10 (by decide) ?_
      refine v_icmp_le (tgt := 18) dX10_makeCylinder_12 (by decide) (fun c3 => ?_) (fun c3 => ?_)
      · have h := h.1 c3
        refine v_aload_n dX10_makeCylinder_18 rfl rfl ?_
        refine u_getr fX10_10 dX10_makeCylinder_19 sh_0 rfl (by decide) (rf_0_0 _) ?_
        refine u_getr fX10_72 dX10_makeCylinder_22 sh_1 rfl (by decide) (rf_1_0 _) ?_
        refine u_geti fX10_76 dX10_makeCylinder_25 sh_2 rfl (by decide) ?_
        refine v_bipush (v := 100) dX10_makeCylinder_28 (by decide) ?_
        refine v_icmp_lt (tgt := 36) dX10_makeCylinder_30 (by decide) (fun c4 => ?_) (fun c4 => ?_)
        · have h := h.1 c4
          refine v_iload_n dX10_makeCylinder_36 rfl rfl ?_
          refine v_if_ge (tgt := 43) dX10_makeCylinder_37 (by decide) (fun c5 => ?_) (fun c5 => ?_)
          · have h := h.1 c5
            refine v_aload_n dX10_makeCylinder_43 rfl rfl ?_
            refine u_callV [] mX10_remember iX10_remember lX10_81 dX10_makeCylinder_44 sh_0 rfl rfl (by decide) ⟨rfl, rfl, id⟩ rfl rfl (Nat.le_of_ble_eq_true rfl) (Nat.le_of_ble_eq_true rfl) (v_X10_remember  _ _ h) ?_
            rintro _ τ7 ⟨rfl, h⟩
            refine v_aload_n dX10_makeCylinder_47 rfl rfl ?_
            refine u_getr fX10_10 dX10_makeCylinder_48 sh_0 rfl (by decide) (rf_0_0 _) ?_
            refine u_getr fX10_72 dX10_makeCylinder_51 sh_1 rfl (by decide) (rf_1_0 _) ?_
            refine v_iload_n dX10_makeCylinder_54 rfl rfl ?_
            refine v_iload_n dX10_makeCylinder_55 rfl rfl ?_
            refine u_callV [.int a1, .int a2] mX4_add iX4_add lX10_84 dX10_makeCylinder_56 sh_2 rfl rfl (by decide) ⟨rfl, rfl, id⟩ rfl rfl (Nat.le_of_ble_eq_true rfl) (Nat.le_of_ble_eq_true rfl) (v_X4_add a1 a2 _ _ h) ?_
            rintro _ τ9 ⟨r8, rfl, h⟩
            exact u_iret dX10_makeCylinder_59 ⟨rfl, id⟩ h
          · have h := h.2 c5
            refine v_bipush (v := -15) dX10_makeCylinder_40 (by decide) ?_
            exact u_iret dX10_makeCylinder_42 ⟨rfl, id⟩ h
        · have h := h.2 c4
          refine v_bipush (v := -4) dX10_makeCylinder_33 (by decide) ?_
          exact u_iret dX10_makeCylinder_35 ⟨rfl, id⟩ h
      · have h := h.2 c3
        refine v_bipush (v := -2) dX10_makeCylinder_15 (by decide) ?_
        exact u_iret dX10_makeCylinder_17 ⟨rfl, id⟩ h
def T_X10_settle (a1 : Int32) (τ : kT) (post : Int32 → kT → Prop) : Prop := (((-11 : Int32) < a1 → ((a1 = (-2 : Int32) → post a1 τ) ∧ (¬ a1 = (-2 : Int32) → ((a1 = (-3 : Int32) → post a1 τ) ∧ (¬ a1 = (-3 : Int32) → ((a1 = (-4 : Int32) → post a1 τ) ∧ (¬ a1 = (-4 : Int32) → (∀ τ5 : kT, τ5 = q_si τ 0 4 (0 : Int32) → post a1 τ5)))))))) ∧ (¬ (-11 : Int32) < a1 → ((a1 < (-15 : Int32) → ((a1 = (-2 : Int32) → post a1 τ) ∧ (¬ a1 = (-2 : Int32) → ((a1 = (-3 : Int32) → post a1 τ) ∧ (¬ a1 = (-3 : Int32) → ((a1 = (-4 : Int32) → post a1 τ) ∧ (¬ a1 = (-4 : Int32) → (∀ τ10 : kT, τ10 = q_si τ 0 4 (0 : Int32) → post a1 τ10)))))))) ∧ (¬ a1 < (-15 : Int32) → (∀ τ11 : kT, τ11 = q_si τ 0 4 ((-10 : Int32) - a1) → (∀ τ12 : kT, τ12 = q_si τ11 0 5 ((q_i τ11 0 5) + (1 : Int32)) → post a1 τ12))))))
set_option maxRecDepth 100000 in
set_option maxHeartbeats 4000000 in
theorem v_X10_settle {d : Nat}  (a1 : Int32) (τ : kT) (post : Int32 → kT → Prop) (h : T_X10_settle  a1 τ post) : U yX10_settle cX10_settle 2 (some .int) (d + 0) kE0 0 [some (.ref 0), some (.int a1)] [] τ (k_pi post) := by
  unfold T_X10_settle at h
  refine v_iload_n dX10_settle_0 rfl rfl ?_
  refine v_bipush (v := -11) dX10_settle_1 (by decide) ?_
  refine v_icmp_gt (tgt := 33) dX10_settle_3 (by decide) (fun c1 => ?_) (fun c1 => ?_)
  · have h := h.1 c1
    refine v_iload_n dX10_settle_33 rfl rfl ?_
    refine v_bipush (v := -2) dX10_settle_34 (by decide) ?_
    refine v_icmp_eq (tgt := 56) dX10_settle_36 (by decide) (fun c2 => ?_) (fun c2 => ?_)
    · have h := h.1 c2
      refine v_iload_n dX10_settle_56 rfl rfl ?_
      exact u_iret dX10_settle_57 ⟨rfl, id⟩ h
    · have h := h.2 c2
      refine v_iload_n dX10_settle_39 rfl rfl ?_
      refine v_bipush (v := -3) dX10_settle_40 (by decide) ?_
      refine v_icmp_eq (tgt := 56) dX10_settle_42 (by decide) (fun c3 => ?_) (fun c3 => ?_)
      · have h := h.1 c3
        refine v_iload_n dX10_settle_56 rfl rfl ?_
        exact u_iret dX10_settle_57 ⟨rfl, id⟩ h
      · have h := h.2 c3
        refine v_iload_n dX10_settle_45 rfl rfl ?_
        refine v_bipush (v := -4) dX10_settle_46 (by decide) ?_
        refine v_icmp_eq (tgt := 56) dX10_settle_48 (by decide) (fun c4 => ?_) (fun c4 => ?_)
        · have h := h.1 c4
          refine v_iload_n dX10_settle_56 rfl rfl ?_
          exact u_iret dX10_settle_57 ⟨rfl, id⟩ h
        · have h := h.2 c4
          refine v_aload_n dX10_settle_51 rfl rfl ?_
          refine v_iconst (v := 0) dX10_settle_52 (by decide) ?_
          refine u_puti pX10_27 ⟨_, rfl⟩ dX10_settle_53 sh_0 rfl (by decide) (by decide) (fun τ5 e_τ5 => ?_)
          have h := h τ5 e_τ5
          refine v_iload_n dX10_settle_56 rfl rfl ?_
          exact u_iret dX10_settle_57 ⟨rfl, id⟩ h
  · have h := h.2 c1
    refine v_iload_n dX10_settle_6 rfl rfl ?_
    refine v_bipush (v := -15) dX10_settle_7 (by decide) ?_
    refine v_icmp_lt (tgt := 33) dX10_settle_9 (by decide) (fun c6 => ?_) (fun c6 => ?_)
    · have h := h.1 c6
      refine v_iload_n dX10_settle_33 rfl rfl ?_
      refine v_bipush (v := -2) dX10_settle_34 (by decide) ?_
      refine v_icmp_eq (tgt := 56) dX10_settle_36 (by decide) (fun c7 => ?_) (fun c7 => ?_)
      · have h := h.1 c7
        refine v_iload_n dX10_settle_56 rfl rfl ?_
        exact u_iret dX10_settle_57 ⟨rfl, id⟩ h
      · have h := h.2 c7
        refine v_iload_n dX10_settle_39 rfl rfl ?_
        refine v_bipush (v := -3) dX10_settle_40 (by decide) ?_
        refine v_icmp_eq (tgt := 56) dX10_settle_42 (by decide) (fun c8 => ?_) (fun c8 => ?_)
        · have h := h.1 c8
          refine v_iload_n dX10_settle_56 rfl rfl ?_
          exact u_iret dX10_settle_57 ⟨rfl, id⟩ h
        · have h := h.2 c8
          refine v_iload_n dX10_settle_45 rfl rfl ?_
          refine v_bipush (v := -4) dX10_settle_46 (by decide) ?_
          refine v_icmp_eq (tgt := 56) dX10_settle_48 (by decide) (fun c9 => ?_) (fun c9 => ?_)
          · have h := h.1 c9
            refine v_iload_n dX10_settle_56 rfl rfl ?_
            exact u_iret dX10_settle_57 ⟨rfl, id⟩ h
          · have h := h.2 c9
            refine v_aload_n dX10_settle_51 rfl rfl ?_
            refine v_iconst (v := 0) dX10_settle_52 (by decide) ?_
            refine u_puti pX10_27 ⟨_, rfl⟩ dX10_settle_53 sh_0 rfl (by decide) (by decide) (fun τ10 e_τ10 => ?_)
            have h := h τ10 e_τ10
            refine v_iload_n dX10_settle_56 rfl rfl ?_
            exact u_iret dX10_settle_57 ⟨rfl, id⟩ h
    · have h := h.2 c6
      refine v_aload_n dX10_settle_12 rfl rfl ?_
      refine v_bipush (v := -10) dX10_settle_13 (by decide) ?_
      refine v_iload_n dX10_settle_15 rfl rfl ?_
      refine v_isub dX10_settle_16 ?_
      refine u_puti pX10_27 ⟨_, rfl⟩ dX10_settle_17 sh_0 rfl (by decide) (by decide) (fun τ11 e_τ11 => ?_)
      have h := h τ11 e_τ11
      refine v_aload_n dX10_settle_20 rfl rfl ?_
      refine v_dup dX10_settle_21 rfl ?_
      refine u_geti fX10_30 dX10_settle_22 sh_0 rfl (by decide) ?_
      refine v_iconst (v := 1) dX10_settle_25 (by decide) ?_
      refine v_iadd dX10_settle_26 ?_
      refine u_puti pX10_30 ⟨_, rfl⟩ dX10_settle_27 sh_0 rfl (by decide) (by decide) (fun τ12 e_τ12 => ?_)
      have h := h τ12 e_τ12
      refine v_goto (tgt := 56) dX10_settle_30 (by decide) ?_
      refine v_iload_n dX10_settle_56 rfl rfl ?_
      exact u_iret dX10_settle_57 ⟨rfl, id⟩ h
def T_X10_cylinder (a1 : Int32) (a2 : Int32) (τ : kT) (post : Int32 → kT → Prop) : Prop := (T_X10_makeCylinder a1 a2 τ (fun r1 τ2 => (T_X10_settle r1 τ2 (fun r3 τ4 => post r3 τ4))))
set_option maxRecDepth 100000 in
set_option maxHeartbeats 4000000 in
theorem v_X10_cylinder {d : Nat}  (a1 : Int32) (a2 : Int32) (τ : kT) (post : Int32 → kT → Prop) (h : T_X10_cylinder  a1 a2 τ post) : U yX10_cylinder cX10_cylinder 3 (some .int) (d + 5) kE0 0 [some (.ref 0), some (.int a1), some (.int a2)] [] τ (k_pi post) := by
  unfold T_X10_cylinder at h
  refine v_aload_n dX10_cylinder_0 rfl rfl ?_
  refine v_aload_n dX10_cylinder_1 rfl rfl ?_
  refine v_iload_n dX10_cylinder_2 rfl rfl ?_
  refine v_iload_n dX10_cylinder_3 rfl rfl ?_
  refine u_callV [.int a1, .int a2] mX10_makeCylinder iX10_makeCylinder lX10_64 dX10_cylinder_4 sh_0 rfl rfl (by decide) ⟨rfl, rfl, id⟩ rfl rfl (Nat.le_of_ble_eq_true rfl) (Nat.le_of_ble_eq_true rfl) (v_X10_makeCylinder a1 a2 _ _ h) ?_
  rintro _ τ2 ⟨r1, rfl, h⟩
  refine u_callV [.int r1] mX10_settle iX10_settle lX10_68 dX10_cylinder_7 sh_0 rfl rfl (by decide) ⟨rfl, rfl, id⟩ rfl rfl (Nat.le_of_ble_eq_true rfl) (Nat.le_of_ble_eq_true rfl) (v_X10_settle r1 _ _ h) ?_
  rintro _ τ4 ⟨r3, rfl, h⟩
  exact u_iret dX10_cylinder_10 ⟨rfl, id⟩ h
def T_X4_hasOrNone (a1 : Int32) (τ : kT) (post : Int32 → kT → Prop) : Prop := ((a1 = (-1 : Int32) → post (1 : Int32) τ) ∧ (¬ a1 = (-1 : Int32) → (T_X4_has a1 τ (fun r2 τ3 => ((r2 = 0 → post (0 : Int32) τ3) ∧ (¬ r2 = 0 → post (1 : Int32) τ3))))))
set_option maxRecDepth 100000 in
set_option maxHeartbeats 4000000 in
theorem v_X4_hasOrNone {d : Nat}  (a1 : Int32) (τ : kT) (post : Int32 → kT → Prop) (h : T_X4_hasOrNone  a1 τ post) : U yX4_hasOrNone cX4_hasOrNone 2 (some .boolean) (d + 1) kE0 0 [some (.ref 2), some (.int a1)] [] τ (k_pi post) := by
  unfold T_X4_hasOrNone at h
  refine v_iload_n dX4_hasOrNone_0 rfl rfl ?_
  refine v_iconst (v := -1) dX4_hasOrNone_1 (by decide) ?_
  refine v_icmp_eq (tgt := 13) dX4_hasOrNone_2 (by decide) (fun c1 => ?_) (fun c1 => ?_)
  · have h := h.1 c1
    refine v_iconst (v := 1) dX4_hasOrNone_13 (by decide) ?_
    refine v_goto (tgt := 18) dX4_hasOrNone_14 (by decide) ?_
    exact u_zret dX4_hasOrNone_18 rfl ⟨rfl, id⟩ h
  · have h := h.2 c1
    refine v_aload_n dX4_hasOrNone_5 rfl rfl ?_
    refine v_iload_n dX4_hasOrNone_6 rfl rfl ?_
    refine u_callV [.int a1] mX4_has iX4_has lX4_37 dX4_hasOrNone_7 sh_2 rfl rfl (by decide) ⟨rfl, rfl, id⟩ rfl rfl (Nat.le_of_ble_eq_true rfl) (Nat.le_of_ble_eq_true rfl) (v_X4_has a1 _ _ h) ?_
    rintro _ τ3 ⟨r2, rfl, h⟩
    refine v_if_eq (tgt := 17) dX4_hasOrNone_10 (by decide) (fun c4 => ?_) (fun c4 => ?_)
    · have h := h.1 c4
      refine v_iconst (v := 0) dX4_hasOrNone_17 (by decide) ?_
      exact u_zret dX4_hasOrNone_18 rfl ⟨rfl, id⟩ h
    · have h := h.2 c4
      refine v_iconst (v := 1) dX4_hasOrNone_13 (by decide) ?_
      refine v_goto (tgt := 18) dX4_hasOrNone_14 (by decide) ?_
      exact u_zret dX4_hasOrNone_18 rfl ⟨rfl, id⟩ h
def T_X4_isDouble (a1 : Int32) (τ : kT) (post : Int32 → kT → Prop) : Prop := (T_X4_has a1 τ (fun r1 τ2 => ((r1 = 0 → post (0 : Int32) τ2) ∧ (¬ r1 = 0 → (∃ j4 : Nat, a1 = nI j4 ∧ j4 < 100 ∧ ((¬ (q_i τ2 3 j4) = (4 : Int32) → post (0 : Int32) τ2) ∧ ((q_i τ2 3 j4) = (4 : Int32) → post (1 : Int32) τ2)))))))
set_option maxRecDepth 100000 in
set_option maxHeartbeats 4000000 in
theorem v_X4_isDouble {d : Nat}  (a1 : Int32) (τ : kT) (post : Int32 → kT → Prop) (h : T_X4_isDouble  a1 τ post) : U yX4_isDouble cX4_isDouble 2 (some .boolean) (d + 1) kE0 0 [some (.ref 2), some (.int a1)] [] τ (k_pi post) := by
  unfold T_X4_isDouble at h
  refine v_aload_n dX4_isDouble_0 rfl rfl ?_
  refine v_iload_n dX4_isDouble_1 rfl rfl ?_
  refine u_callV [.int a1] mX4_has iX4_has lX4_37 dX4_isDouble_2 sh_2 rfl rfl (by decide) ⟨rfl, rfl, id⟩ rfl rfl (Nat.le_of_ble_eq_true rfl) (Nat.le_of_ble_eq_true rfl) (v_X4_has a1 _ _ h) ?_
  rintro _ τ2 ⟨r1, rfl, h⟩
  refine v_if_eq (tgt := 22) dX4_isDouble_5 (by decide) (fun c3 => ?_) (fun c3 => ?_)
  · have h := h.1 c3
    refine v_iconst (v := 0) dX4_isDouble_22 (by decide) ?_
    exact u_zret dX4_isDouble_23 rfl ⟨rfl, id⟩ h
  · have h := h.2 c3
    refine v_aload_n dX4_isDouble_8 rfl rfl ?_
    refine u_getr fX4_9 dX4_isDouble_9 sh_2 rfl (by decide) (rf_2_0 _) ?_
    refine v_iload_n dX4_isDouble_12 rfl rfl ?_
    obtain ⟨j4, e_j4, l_j4, h⟩ := h
    refine u_iald dX4_isDouble_13 sh_3 (by decide) (by decide) e_j4 l_j4 ?_
    refine v_iconst (v := 4) dX4_isDouble_14 (by decide) ?_
    refine v_icmp_ne (tgt := 22) dX4_isDouble_15 (by decide) (fun c5 => ?_) (fun c5 => ?_)
    · have h := h.1 c5
      refine v_iconst (v := 0) dX4_isDouble_22 (by decide) ?_
      exact u_zret dX4_isDouble_23 rfl ⟨rfl, id⟩ h
    · have h := h.2 c5
      refine v_iconst (v := 1) dX4_isDouble_18 (by decide) ?_
      refine v_goto (tgt := 23) dX4_isDouble_19 (by decide) ?_
      exact u_zret dX4_isDouble_23 rfl ⟨rfl, id⟩ h
def T_X4_addDouble (a1 : Int32) (a2 : Int32) (τ : kT) (post : Int32 → kT → Prop) : Prop := (T_X4_add (4 : Int32) (0 : Int32) τ (fun r1 τ2 => (∃ j3 : Nat, r1 = nI j3 ∧ j3 < 100 ∧ (∀ τ4 : kT, τ4 = q_si τ2 6 j3 a1 → (∃ j5 : Nat, r1 = nI j5 ∧ j5 < 100 ∧ (∀ τ6 : kT, τ6 = q_si τ4 7 j5 a2 → post r1 τ6))))))
set_option maxRecDepth 100000 in
set_option maxHeartbeats 4000000 in
theorem v_X4_addDouble {d : Nat}  (a1 : Int32) (a2 : Int32) (τ : kT) (post : Int32 → kT → Prop) (h : T_X4_addDouble  a1 a2 τ post) : U yX4_addDouble cX4_addDouble 4 (some .int) (d + 4) kE0 0 [some (.ref 2), some (.int a1), some (.int a2), none] [] τ (k_pi post) := by
  unfold T_X4_addDouble at h
  refine v_aload_n dX4_addDouble_0 rfl rfl ?_
  refine v_iconst (v := 4) dX4_addDouble_1 (by decide) ?_
  refine v_iconst (v := 0) dX4_addDouble_2 (by decide) ?_
  refine u_callV [.int (4 : Int32), .int (0 : Int32)] mX4_add iX4_add lX4_65 dX4_addDouble_3 sh_2 rfl rfl (by decide) ⟨rfl, rfl, id⟩ rfl rfl (Nat.le_of_ble_eq_true rfl) (Nat.le_of_ble_eq_true rfl) (v_X4_add (4 : Int32) (0 : Int32) _ _ h) ?_
  rintro _ τ2 ⟨r1, rfl, h⟩
  refine v_istore_n dX4_addDouble_6 rfl (by decide) rfl ?_
  refine v_ls (ls2 := [some (.ref 2), some (.int a1), some (.int a2), some (.int r1)]) rfl ?_
  refine v_aload_n dX4_addDouble_7 rfl rfl ?_
  refine u_getr fX4_21 dX4_addDouble_8 sh_2 rfl (by decide) (rf_2_3 _) ?_
  refine v_iload_n dX4_addDouble_11 rfl rfl ?_
  refine v_iload_n dX4_addDouble_12 rfl rfl ?_
  obtain ⟨j3, e_j3, l_j3, h⟩ := h
  refine u_iast dX4_addDouble_13 sh_6 (by decide) (by decide) e_j3 l_j3 (fun τ4 e_τ4 => ?_)
  have h := h τ4 e_τ4
  refine v_aload_n dX4_addDouble_14 rfl rfl ?_
  refine u_getr fX4_24 dX4_addDouble_15 sh_2 rfl (by decide) (rf_2_4 _) ?_
  refine v_iload_n dX4_addDouble_18 rfl rfl ?_
  refine v_iload_n dX4_addDouble_19 rfl rfl ?_
  obtain ⟨j5, e_j5, l_j5, h⟩ := h
  refine u_iast dX4_addDouble_20 sh_7 (by decide) (by decide) e_j5 l_j5 (fun τ6 e_τ6 => ?_)
  have h := h τ6 e_τ6
  refine v_iload_n dX4_addDouble_21 rfl rfl ?_
  exact u_iret dX4_addDouble_22 ⟨rfl, id⟩ h
def T_X10_makeDouble (a1 : Int32) (a2 : Int32) (τ : kT) (post : Int32 → kT → Prop) : Prop := (T_X4_hasOrNone a1 τ (fun r1 τ2 => ((r1 = 0 → post (-2 : Int32) τ2) ∧ (¬ r1 = 0 → (T_X4_hasOrNone a2 τ2 (fun r4 τ5 => ((¬ r4 = 0 → (((q_i τ5 2 5) < (100 : Int32) → (T_X4_isDouble a1 τ5 (fun r8 τ9 => ((¬ r8 = 0 → post (-13 : Int32) τ9) ∧ (r8 = 0 → (T_X4_isDouble a2 τ9 (fun r11 τ12 => ((r11 = 0 → (T_X10_remember  τ12 (fun τ15 => (T_X4_addDouble a1 a2 τ15 (fun r16 τ17 => post r16 τ17))))) ∧ (¬ r11 = 0 → post (-13 : Int32) τ12))))))))) ∧ (¬ (q_i τ5 2 5) < (100 : Int32) → post (-4 : Int32) τ5))) ∧ (r4 = 0 → post (-2 : Int32) τ5))))))))
set_option maxRecDepth 100000 in
set_option maxHeartbeats 4000000 in
theorem v_X10_makeDouble {d : Nat}  (a1 : Int32) (a2 : Int32) (τ : kT) (post : Int32 → kT → Prop) (h : T_X10_makeDouble  a1 a2 τ post) : U yX10_makeDouble cX10_makeDouble 4 (some .int) (d + 5) kE0 0 [some (.ref 0), some (.int a1), some (.int a2), none] [] τ (k_pi post) := by
  unfold T_X10_makeDouble at h
  refine v_aload_n dX10_makeDouble_0 rfl rfl ?_
  refine u_getr fX10_10 dX10_makeDouble_1 sh_0 rfl (by decide) (rf_0_0 _) ?_
  refine u_getr fX10_72 dX10_makeDouble_4 sh_1 rfl (by decide) (rf_1_0 _) ?_
  refine v_astore_n dX10_makeDouble_7 rfl (by decide) rfl ?_
  refine v_ls (ls2 := [some (.ref 0), some (.int a1), some (.int a2), some (.ref 2)]) rfl ?_
  refine v_aload_n dX10_makeDouble_8 rfl rfl ?_
  refine v_iload_n dX10_makeDouble_9 rfl rfl ?_
  refine u_callV [.int a1] mX4_hasOrNone iX4_hasOrNone lX10_90 dX10_makeDouble_10 sh_2 rfl rfl (by decide) ⟨rfl, rfl, id⟩ rfl rfl (Nat.le_of_ble_eq_true rfl) (Nat.le_of_ble_eq_true rfl) (v_X4_hasOrNone a1 _ _ h) ?_
  rintro _ τ2 ⟨r1, rfl, h⟩
  refine v_if_eq (tgt := 24) dX10_makeDouble_13 (by decide) (fun c3 => ?_) (fun c3 => ?_)
  · have h := h.1 c3
    refine v_bipush (v := -2) dX10_makeDouble_24 (by decide) ?_
    exact u_iret dX10_makeDouble_26 ⟨rfl, id⟩ h
  · have h := h.2 c3
    refine v_aload_n dX10_makeDouble_16 rfl rfl ?_
    refine v_iload_n dX10_makeDouble_17 rfl rfl ?_
    refine u_callV [.int a2] mX4_hasOrNone iX4_hasOrNone lX10_90 dX10_makeDouble_18 sh_2 rfl rfl (by decide) ⟨rfl, rfl, id⟩ rfl rfl (Nat.le_of_ble_eq_true rfl) (Nat.le_of_ble_eq_true rfl) (v_X4_hasOrNone a2 _ _ h) ?_
    rintro _ τ5 ⟨r4, rfl, h⟩
    refine v_if_ne (tgt := 27) dX10_makeDouble_21 (by decide) (fun c6 => ?_) (fun c6 => ?_)
    · have h := h.1 c6
      refine v_aload_n dX10_makeDouble_27 rfl rfl ?_
      refine u_geti fX10_76 dX10_makeDouble_28 sh_2 rfl (by decide) ?_
      refine v_bipush (v := 100) dX10_makeDouble_31 (by decide) ?_
      refine v_icmp_lt (tgt := 39) dX10_makeDouble_33 (by decide) (fun c7 => ?_) (fun c7 => ?_)
      · have h := h.1 c7
        refine v_aload_n dX10_makeDouble_39 rfl rfl ?_
        refine v_iload_n dX10_makeDouble_40 rfl rfl ?_
        refine u_callV [.int a1] mX4_isDouble iX4_isDouble lX10_94 dX10_makeDouble_41 sh_2 rfl rfl (by decide) ⟨rfl, rfl, id⟩ rfl rfl (Nat.le_of_ble_eq_true rfl) (Nat.le_of_ble_eq_true rfl) (v_X4_isDouble a1 _ _ h) ?_
        rintro _ τ9 ⟨r8, rfl, h⟩
        refine v_if_ne (tgt := 55) dX10_makeDouble_44 (by decide) (fun c10 => ?_) (fun c10 => ?_)
        · have h := h.1 c10
          refine v_bipush (v := -13) dX10_makeDouble_55 (by decide) ?_
          exact u_iret dX10_makeDouble_57 ⟨rfl, id⟩ h
        · have h := h.2 c10
          refine v_aload_n dX10_makeDouble_47 rfl rfl ?_
          refine v_iload_n dX10_makeDouble_48 rfl rfl ?_
          refine u_callV [.int a2] mX4_isDouble iX4_isDouble lX10_94 dX10_makeDouble_49 sh_2 rfl rfl (by decide) ⟨rfl, rfl, id⟩ rfl rfl (Nat.le_of_ble_eq_true rfl) (Nat.le_of_ble_eq_true rfl) (v_X4_isDouble a2 _ _ h) ?_
          rintro _ τ12 ⟨r11, rfl, h⟩
          refine v_if_eq (tgt := 58) dX10_makeDouble_52 (by decide) (fun c13 => ?_) (fun c13 => ?_)
          · have h := h.1 c13
            refine v_aload_n dX10_makeDouble_58 rfl rfl ?_
            refine u_callV [] mX10_remember iX10_remember lX10_81 dX10_makeDouble_59 sh_0 rfl rfl (by decide) ⟨rfl, rfl, id⟩ rfl rfl (Nat.le_of_ble_eq_true rfl) (Nat.le_of_ble_eq_true rfl) (v_X10_remember  _ _ h) ?_
            rintro _ τ15 ⟨rfl, h⟩
            refine v_aload_n dX10_makeDouble_62 rfl rfl ?_
            refine v_iload_n dX10_makeDouble_63 rfl rfl ?_
            refine v_iload_n dX10_makeDouble_64 rfl rfl ?_
            refine u_callV [.int a1, .int a2] mX4_addDouble iX4_addDouble lX10_97 dX10_makeDouble_65 sh_2 rfl rfl (by decide) ⟨rfl, rfl, id⟩ rfl rfl (Nat.le_of_ble_eq_true rfl) (Nat.le_of_ble_eq_true rfl) (v_X4_addDouble a1 a2 _ _ h) ?_
            rintro _ τ17 ⟨r16, rfl, h⟩
            exact u_iret dX10_makeDouble_68 ⟨rfl, id⟩ h
          · have h := h.2 c13
            refine v_bipush (v := -13) dX10_makeDouble_55 (by decide) ?_
            exact u_iret dX10_makeDouble_57 ⟨rfl, id⟩ h
      · have h := h.2 c7
        refine v_bipush (v := -4) dX10_makeDouble_36 (by decide) ?_
        exact u_iret dX10_makeDouble_38 ⟨rfl, id⟩ h
    · have h := h.2 c6
      refine v_bipush (v := -2) dX10_makeDouble_24 (by decide) ?_
      exact u_iret dX10_makeDouble_26 ⟨rfl, id⟩ h
def T_X10_twin (a1 : Int32) (a2 : Int32) (τ : kT) (post : Int32 → kT → Prop) : Prop := (T_X10_makeDouble a1 a2 τ (fun r1 τ2 => (T_X10_settle r1 τ2 (fun r3 τ4 => post r3 τ4))))
set_option maxRecDepth 100000 in
set_option maxHeartbeats 4000000 in
theorem v_X10_twin {d : Nat}  (a1 : Int32) (a2 : Int32) (τ : kT) (post : Int32 → kT → Prop) (h : T_X10_twin  a1 a2 τ post) : U yX10_twin cX10_twin 3 (some .int) (d + 6) kE0 0 [some (.ref 0), some (.int a1), some (.int a2)] [] τ (k_pi post) := by
  unfold T_X10_twin at h
  refine v_aload_n dX10_twin_0 rfl rfl ?_
  refine v_aload_n dX10_twin_1 rfl rfl ?_
  refine v_iload_n dX10_twin_2 rfl rfl ?_
  refine v_iload_n dX10_twin_3 rfl rfl ?_
  refine u_callV [.int a1, .int a2] mX10_makeDouble iX10_makeDouble lX10_87 dX10_twin_4 sh_0 rfl rfl (by decide) ⟨rfl, rfl, id⟩ rfl rfl (Nat.le_of_ble_eq_true rfl) (Nat.le_of_ble_eq_true rfl) (v_X10_makeDouble a1 a2 _ _ h) ?_
  rintro _ τ2 ⟨r1, rfl, h⟩
  refine u_callV [.int r1] mX10_settle iX10_settle lX10_68 dX10_twin_7 sh_0 rfl rfl (by decide) ⟨rfl, rfl, id⟩ rfl rfl (Nat.le_of_ble_eq_true rfl) (Nat.le_of_ble_eq_true rfl) (v_X10_settle r1 _ _ h) ?_
  rintro _ τ4 ⟨r3, rfl, h⟩
  exact u_iret dX10_twin_10 ⟨rfl, id⟩ h
def T_X4_isOut (a1 : Int32) (τ : kT) (post : Int32 → kT → Prop) : Prop := (T_X4_has a1 τ (fun r1 τ2 => ((r1 = 0 → post (0 : Int32) τ2) ∧ (¬ r1 = 0 → (∃ j4 : Nat, a1 = nI j4 ∧ j4 < 100 ∧ ((¬ (q_i τ2 3 j4) = (2 : Int32) → post (0 : Int32) τ2) ∧ ((q_i τ2 3 j4) = (2 : Int32) → (∃ j6 : Nat, a1 = nI j6 ∧ j6 < 100 ∧ ((¬ (q_i τ2 4 j6) = (-1 : Int32) → post (0 : Int32) τ2) ∧ ((q_i τ2 4 j6) = (-1 : Int32) → post (1 : Int32) τ2))))))))))
set_option maxRecDepth 100000 in
set_option maxHeartbeats 4000000 in
theorem v_X4_isOut {d : Nat}  (a1 : Int32) (τ : kT) (post : Int32 → kT → Prop) (h : T_X4_isOut  a1 τ post) : U yX4_isOut cX4_isOut 2 (some .boolean) (d + 1) kE0 0 [some (.ref 2), some (.int a1)] [] τ (k_pi post) := by
  unfold T_X4_isOut at h
  refine v_aload_n dX4_isOut_0 rfl rfl ?_
  refine v_iload_n dX4_isOut_1 rfl rfl ?_
  refine u_callV [.int a1] mX4_has iX4_has lX4_37 dX4_isOut_2 sh_2 rfl rfl (by decide) ⟨rfl, rfl, id⟩ rfl rfl (Nat.le_of_ble_eq_true rfl) (Nat.le_of_ble_eq_true rfl) (v_X4_has a1 _ _ h) ?_
  rintro _ τ2 ⟨r1, rfl, h⟩
  refine v_if_eq (tgt := 32) dX4_isOut_5 (by decide) (fun c3 => ?_) (fun c3 => ?_)
  · have h := h.1 c3
    refine v_iconst (v := 0) dX4_isOut_32 (by decide) ?_
    exact u_zret dX4_isOut_33 rfl ⟨rfl, id⟩ h
  · have h := h.2 c3
    refine v_aload_n dX4_isOut_8 rfl rfl ?_
    refine u_getr fX4_9 dX4_isOut_9 sh_2 rfl (by decide) (rf_2_0 _) ?_
    refine v_iload_n dX4_isOut_12 rfl rfl ?_
    obtain ⟨j4, e_j4, l_j4, h⟩ := h
    refine u_iald dX4_isOut_13 sh_3 (by decide) (by decide) e_j4 l_j4 ?_
    refine v_iconst (v := 2) dX4_isOut_14 (by decide) ?_
    refine v_icmp_ne (tgt := 32) dX4_isOut_15 (by decide) (fun c5 => ?_) (fun c5 => ?_)
    · have h := h.1 c5
      refine v_iconst (v := 0) dX4_isOut_32 (by decide) ?_
      exact u_zret dX4_isOut_33 rfl ⟨rfl, id⟩ h
    · have h := h.2 c5
      refine v_aload_n dX4_isOut_18 rfl rfl ?_
      refine u_getr fX4_15 dX4_isOut_19 sh_2 rfl (by decide) (rf_2_1 _) ?_
      refine v_iload_n dX4_isOut_22 rfl rfl ?_
      obtain ⟨j6, e_j6, l_j6, h⟩ := h
      refine u_iald dX4_isOut_23 sh_4 (by decide) (by decide) e_j6 l_j6 ?_
      refine v_iconst (v := -1) dX4_isOut_24 (by decide) ?_
      refine v_icmp_ne (tgt := 32) dX4_isOut_25 (by decide) (fun c7 => ?_) (fun c7 => ?_)
      · have h := h.1 c7
        refine v_iconst (v := 0) dX4_isOut_32 (by decide) ?_
        exact u_zret dX4_isOut_33 rfl ⟨rfl, id⟩ h
      · have h := h.2 c7
        refine v_iconst (v := 1) dX4_isOut_28 (by decide) ?_
        refine v_goto (tgt := 33) dX4_isOut_29 (by decide) ?_
        exact u_zret dX4_isOut_33 rfl ⟨rfl, id⟩ h
def T_X4_rowFinding (a1 : Int32) (τ : kT) (post : Int32 → kT → Prop) : Prop := (T_X4_isDouble a1 τ (fun r1 τ2 => ((r1 = 0 → (T_X4_isOut a1 τ2 (fun r4 τ5 => ((r4 = 0 → post (0 : Int32) τ5) ∧ (¬ r4 = 0 → post (-11 : Int32) τ5))))) ∧ (¬ r1 = 0 → post (-13 : Int32) τ2))))
set_option maxRecDepth 100000 in
set_option maxHeartbeats 4000000 in
theorem v_X4_rowFinding {d : Nat}  (a1 : Int32) (τ : kT) (post : Int32 → kT → Prop) (h : T_X4_rowFinding  a1 τ post) : U yX4_rowFinding cX4_rowFinding 2 (some .int) (d + 2) kE0 0 [some (.ref 2), some (.int a1)] [] τ (k_pi post) := by
  unfold T_X4_rowFinding at h
  refine v_aload_n dX4_rowFinding_0 rfl rfl ?_
  refine v_iload_n dX4_rowFinding_1 rfl rfl ?_
  refine u_callV [.int a1] mX4_isDouble iX4_isDouble lX4_48 dX4_rowFinding_2 sh_2 rfl rfl (by decide) ⟨rfl, rfl, id⟩ rfl rfl (Nat.le_of_ble_eq_true rfl) (Nat.le_of_ble_eq_true rfl) (v_X4_isDouble a1 _ _ h) ?_
  rintro _ τ2 ⟨r1, rfl, h⟩
  refine v_if_eq (tgt := 11) dX4_rowFinding_5 (by decide) (fun c3 => ?_) (fun c3 => ?_)
  · have h := h.1 c3
    refine v_aload_n dX4_rowFinding_11 rfl rfl ?_
    refine v_iload_n dX4_rowFinding_12 rfl rfl ?_
    refine u_callV [.int a1] mX4_isOut iX4_isOut lX4_51 dX4_rowFinding_13 sh_2 rfl rfl (by decide) ⟨rfl, rfl, id⟩ rfl rfl (Nat.le_of_ble_eq_true rfl) (Nat.le_of_ble_eq_true rfl) (v_X4_isOut a1 _ _ h) ?_
    rintro _ τ5 ⟨r4, rfl, h⟩
    refine v_if_eq (tgt := 24) dX4_rowFinding_16 (by decide) (fun c6 => ?_) (fun c6 => ?_)
    · have h := h.1 c6
      refine v_iconst (v := 0) dX4_rowFinding_24 (by decide) ?_
      exact u_iret dX4_rowFinding_25 ⟨rfl, id⟩ h
    · have h := h.2 c6
      refine v_bipush (v := -11) dX4_rowFinding_19 (by decide) ?_
      refine v_goto (tgt := 25) dX4_rowFinding_21 (by decide) ?_
      exact u_iret dX4_rowFinding_25 ⟨rfl, id⟩ h
  · have h := h.2 c3
    refine v_bipush (v := -13) dX4_rowFinding_8 (by decide) ?_
    exact u_iret dX4_rowFinding_10 ⟨rfl, id⟩ h
def T_X4_chamberFinding (a1 : Int32) (a2 : Int32) (τ : kT) (post : Int32 → kT → Prop) : Prop := (T_X4_rowFinding a1 τ (fun r1 τ2 => ((r1 = 0 → (T_X4_hasChamber a1 a2 τ2 (fun r4 τ5 => ((r4 = 0 → post (-12 : Int32) τ5) ∧ (¬ r4 = 0 → post (0 : Int32) τ5))))) ∧ (¬ r1 = 0 → post r1 τ2))))
set_option maxRecDepth 100000 in
set_option maxHeartbeats 4000000 in
theorem v_X4_chamberFinding {d : Nat}  (a1 : Int32) (a2 : Int32) (τ : kT) (post : Int32 → kT → Prop) (h : T_X4_chamberFinding  a1 a2 τ post) : U yX4_chamberFinding cX4_chamberFinding 4 (some .int) (d + 3) kE0 0 [some (.ref 2), some (.int a1), some (.int a2), none] [] τ (k_pi post) := by
  unfold T_X4_chamberFinding at h
  refine v_aload_n dX4_chamberFinding_0 rfl rfl ?_
  refine v_iload_n dX4_chamberFinding_1 rfl rfl ?_
  refine u_callV [.int a1] mX4_rowFinding iX4_rowFinding lX4_54 dX4_chamberFinding_2 sh_2 rfl rfl (by decide) ⟨rfl, rfl, id⟩ rfl rfl (Nat.le_of_ble_eq_true rfl) (Nat.le_of_ble_eq_true rfl) (v_X4_rowFinding a1 _ _ h) ?_
  rintro _ τ2 ⟨r1, rfl, h⟩
  refine v_istore_n dX4_chamberFinding_5 rfl (by decide) rfl ?_
  refine v_ls (ls2 := [some (.ref 2), some (.int a1), some (.int a2), some (.int r1)]) rfl ?_
  refine v_iload_n dX4_chamberFinding_6 rfl rfl ?_
  refine v_if_eq (tgt := 12) dX4_chamberFinding_7 (by decide) (fun c3 => ?_) (fun c3 => ?_)
  · have h := h.1 c3
    refine v_aload_n dX4_chamberFinding_12 rfl rfl ?_
    refine v_iload_n dX4_chamberFinding_13 rfl rfl ?_
    refine v_iload_n dX4_chamberFinding_14 rfl rfl ?_
    refine u_callV [.int a1, .int a2] mX4_hasChamber iX4_hasChamber lX4_58 dX4_chamberFinding_15 sh_2 rfl rfl (by decide) ⟨rfl, rfl, id⟩ rfl rfl (Nat.le_of_ble_eq_true rfl) (Nat.le_of_ble_eq_true rfl) (v_X4_hasChamber a1 a2 _ _ h) ?_
    rintro _ τ5 ⟨r4, rfl, h⟩
    refine v_if_eq (tgt := 25) dX4_chamberFinding_18 (by decide) (fun c6 => ?_) (fun c6 => ?_)
    · have h := h.1 c6
      refine v_bipush (v := -12) dX4_chamberFinding_25 (by decide) ?_
      exact u_iret dX4_chamberFinding_27 ⟨rfl, id⟩ h
    · have h := h.2 c6
      refine v_iconst (v := 0) dX4_chamberFinding_21 (by decide) ?_
      refine v_goto (tgt := 27) dX4_chamberFinding_22 (by decide) ?_
      exact u_iret dX4_chamberFinding_27 ⟨rfl, id⟩ h
  · have h := h.2 c3
    refine v_iload_n dX4_chamberFinding_10 rfl rfl ?_
    exact u_iret dX4_chamberFinding_11 ⟨rfl, id⟩ h
def T_X4_heightsIn (a1 : Int32) (a2 : Int32) (τ : kT) (post : Int32 → kT → Prop) : Prop := (T_X4_hasChamber a1 a2 τ (fun r1 τ2 => ((r1 = 0 → post (0 : Int32) τ2) ∧ (¬ r1 = 0 → (∃ j4 : Nat, ((a1 * (18 : Int32)) + a2) = nI j4 ∧ j4 < 1800 ∧ post (q_i τ2 5 j4) τ2)))))
set_option maxRecDepth 100000 in
set_option maxHeartbeats 4000000 in
theorem v_X4_heightsIn {d : Nat}  (a1 : Int32) (a2 : Int32) (τ : kT) (post : Int32 → kT → Prop) (h : T_X4_heightsIn  a1 a2 τ post) : U yX4_heightsIn cX4_heightsIn 3 (some .int) (d + 2) kE0 0 [some (.ref 2), some (.int a1), some (.int a2)] [] τ (k_pi post) := by
  unfold T_X4_heightsIn at h
  refine v_aload_n dX4_heightsIn_0 rfl rfl ?_
  refine v_iload_n dX4_heightsIn_1 rfl rfl ?_
  refine v_iload_n dX4_heightsIn_2 rfl rfl ?_
  refine u_callV [.int a1, .int a2] mX4_hasChamber iX4_hasChamber lX4_58 dX4_heightsIn_3 sh_2 rfl rfl (by decide) ⟨rfl, rfl, id⟩ rfl rfl (Nat.le_of_ble_eq_true rfl) (Nat.le_of_ble_eq_true rfl) (v_X4_hasChamber a1 a2 _ _ h) ?_
  rintro _ τ2 ⟨r1, rfl, h⟩
  refine v_if_eq (tgt := 23) dX4_heightsIn_6 (by decide) (fun c3 => ?_) (fun c3 => ?_)
  · have h := h.1 c3
    refine v_iconst (v := 0) dX4_heightsIn_23 (by decide) ?_
    exact u_iret dX4_heightsIn_24 ⟨rfl, id⟩ h
  · have h := h.2 c3
    refine v_aload_n dX4_heightsIn_9 rfl rfl ?_
    refine u_getr fX4_18 dX4_heightsIn_10 sh_2 rfl (by decide) (rf_2_2 _) ?_
    refine v_iload_n dX4_heightsIn_13 rfl rfl ?_
    refine v_bipush (v := 18) dX4_heightsIn_14 (by decide) ?_
    refine v_imul dX4_heightsIn_16 ?_
    refine v_iload_n dX4_heightsIn_17 rfl rfl ?_
    refine v_iadd dX4_heightsIn_18 ?_
    obtain ⟨j4, e_j4, l_j4, h⟩ := h
    refine u_iald dX4_heightsIn_19 sh_5 (by decide) (by decide) e_j4 l_j4 ?_
    refine v_goto (tgt := 24) dX4_heightsIn_20 (by decide) ?_
    exact u_iret dX4_heightsIn_24 ⟨rfl, id⟩ h
def T_J6_bitCount_0f7a4 (a1 : Int32) (τ : kT) (post : Int32 → kT → Prop) : Prop := (∀ v1 : Int32, v1 = (a1 - ((a1.toUInt32 >>> ((1 : Int32).toUInt32 &&& Int32.toUInt32 31)).toInt32 &&& (1431655765 : Int32))) → (∀ v2 : Int32, v2 = ((v1 &&& (858993459 : Int32)) + ((v1.toUInt32 >>> ((2 : Int32).toUInt32 &&& Int32.toUInt32 31)).toInt32 &&& (858993459 : Int32))) → (∀ v3 : Int32, v3 = ((v2 + (v2.toUInt32 >>> ((4 : Int32).toUInt32 &&& Int32.toUInt32 31)).toInt32) &&& (252645135 : Int32)) → (∀ v4 : Int32, v4 = (v3 + (v3.toUInt32 >>> ((8 : Int32).toUInt32 &&& Int32.toUInt32 31)).toInt32) → (∀ v5 : Int32, v5 = (v4 + (v4.toUInt32 >>> ((16 : Int32).toUInt32 &&& Int32.toUInt32 31)).toInt32) → post (v5 &&& (63 : Int32)) τ)))))
set_option maxRecDepth 100000 in
set_option maxHeartbeats 4000000 in
theorem v_J6_bitCount_0f7a4 {d : Nat}  (a1 : Int32) (τ : kT) (post : Int32 → kT → Prop) (h : T_J6_bitCount_0f7a4  a1 τ post) : U yJ6_bitCount_0f7a4 cJ6_bitCount_0f7a4 1 (some .int) (d + 0) kE0 0 [some (.int a1)] [] τ (k_pi post) := by
  unfold T_J6_bitCount_0f7a4 at h
  refine v_iload_n dJ6_bitCount_0f7a4_0 rfl rfl ?_
  refine v_iload_n dJ6_bitCount_0f7a4_1 rfl rfl ?_
  refine v_iconst (v := 1) dJ6_bitCount_0f7a4_2 (by decide) ?_
  refine v_iushr dJ6_bitCount_0f7a4_3 rfl ?_
  refine v_ldcw kJ6_265 dJ6_bitCount_0f7a4_4 ?_
  refine v_iand dJ6_bitCount_0f7a4_7 ?_
  refine v_isub dJ6_bitCount_0f7a4_8 ?_
  refine v_topi (fun v1 e_v1 => ?_)
  have h := h v1 e_v1
  refine v_istore_n dJ6_bitCount_0f7a4_9 rfl (by decide) rfl ?_
  refine v_ls (ls2 := [some (.int v1)]) rfl ?_
  refine v_iload_n dJ6_bitCount_0f7a4_10 rfl rfl ?_
  refine v_ldcw kJ6_266 dJ6_bitCount_0f7a4_11 ?_
  refine v_iand dJ6_bitCount_0f7a4_14 ?_
  refine v_iload_n dJ6_bitCount_0f7a4_15 rfl rfl ?_
  refine v_iconst (v := 2) dJ6_bitCount_0f7a4_16 (by decide) ?_
  refine v_iushr dJ6_bitCount_0f7a4_17 rfl ?_
  refine v_ldcw kJ6_266 dJ6_bitCount_0f7a4_18 ?_
  refine v_iand dJ6_bitCount_0f7a4_21 ?_
  refine v_iadd dJ6_bitCount_0f7a4_22 ?_
  refine v_topi (fun v2 e_v2 => ?_)
  have h := h v2 e_v2
  refine v_istore_n dJ6_bitCount_0f7a4_23 rfl (by decide) rfl ?_
  refine v_ls (ls2 := [some (.int v2)]) rfl ?_
  refine v_iload_n dJ6_bitCount_0f7a4_24 rfl rfl ?_
  refine v_iload_n dJ6_bitCount_0f7a4_25 rfl rfl ?_
  refine v_iconst (v := 4) dJ6_bitCount_0f7a4_26 (by decide) ?_
  refine v_iushr dJ6_bitCount_0f7a4_27 rfl ?_
  refine v_iadd dJ6_bitCount_0f7a4_28 ?_
  refine v_ldcw kJ6_267 dJ6_bitCount_0f7a4_29 ?_
  refine v_iand dJ6_bitCount_0f7a4_32 ?_
  refine v_topi (fun v3 e_v3 => ?_)
  have h := h v3 e_v3
  refine v_istore_n dJ6_bitCount_0f7a4_33 rfl (by decide) rfl ?_
  refine v_ls (ls2 := [some (.int v3)]) rfl ?_
  refine v_iload_n dJ6_bitCount_0f7a4_34 rfl rfl ?_
  refine v_iload_n dJ6_bitCount_0f7a4_35 rfl rfl ?_
  refine v_bipush (v := 8) dJ6_bitCount_0f7a4_36 (by decide) ?_
  refine v_iushr dJ6_bitCount_0f7a4_38 rfl ?_
  refine v_iadd dJ6_bitCount_0f7a4_39 ?_
  refine v_topi (fun v4 e_v4 => ?_)
  have h := h v4 e_v4
  refine v_istore_n dJ6_bitCount_0f7a4_40 rfl (by decide) rfl ?_
  refine v_ls (ls2 := [some (.int v4)]) rfl ?_
  refine v_iload_n dJ6_bitCount_0f7a4_41 rfl rfl ?_
  refine v_iload_n dJ6_bitCount_0f7a4_42 rfl rfl ?_
  refine v_bipush (v := 16) dJ6_bitCount_0f7a4_43 (by decide) ?_
  refine v_iushr dJ6_bitCount_0f7a4_45 rfl ?_
  refine v_iadd dJ6_bitCount_0f7a4_46 ?_
  refine v_topi (fun v5 e_v5 => ?_)
  have h := h v5 e_v5
  refine v_istore_n dJ6_bitCount_0f7a4_47 rfl (by decide) rfl ?_
  refine v_ls (ls2 := [some (.int v5)]) rfl ?_
  refine v_iload_n dJ6_bitCount_0f7a4_48 rfl rfl ?_
  refine v_bipush (v := 63) dJ6_bitCount_0f7a4_49 (by decide) ?_
  refine v_iand dJ6_bitCount_0f7a4_51 ?_
  exact u_iret dJ6_bitCount_0f7a4_52 ⟨rfl, id⟩ h
def T_X4_isOf (a1 : Int32) (a2 : Int32) (τ : kT) (post : Int32 → kT → Prop) : Prop := (T_X4_has a1 τ (fun r1 τ2 => ((¬ r1 = 0 → (∃ j4 : Nat, a1 = nI j4 ∧ j4 < 100 ∧ (∀ v5 : Int32, v5 = (q_i τ2 3 j4) → ((v5 = a2 → post (1 : Int32) τ2) ∧ (¬ v5 = a2 → ((¬ a2 = 0 → ((¬ a2 = (1 : Int32) → post (0 : Int32) τ2) ∧ (a2 = (1 : Int32) → ((¬ v5 = (2 : Int32) → post (0 : Int32) τ2) ∧ (v5 = (2 : Int32) → post (1 : Int32) τ2))))) ∧ (a2 = 0 → ((¬ v5 = (4 : Int32) → post (1 : Int32) τ2) ∧ (v5 = (4 : Int32) → ((¬ a2 = (1 : Int32) → post (0 : Int32) τ2) ∧ (a2 = (1 : Int32) → ((¬ v5 = (2 : Int32) → post (0 : Int32) τ2) ∧ (v5 = (2 : Int32) → post (1 : Int32) τ2))))))))))))) ∧ (r1 = 0 → post (0 : Int32) τ2))))
set_option maxRecDepth 100000 in
set_option maxHeartbeats 4000000 in
theorem v_X4_isOf {d : Nat}  (a1 : Int32) (a2 : Int32) (τ : kT) (post : Int32 → kT → Prop) (h : T_X4_isOf  a1 a2 τ post) : U yX4_isOf cX4_isOf 4 (some .boolean) (d + 1) kE0 0 [some (.ref 2), some (.int a1), some (.int a2), none] [] τ (k_pi post) := by
  unfold T_X4_isOf at h
  refine v_aload_n dX4_isOf_0 rfl rfl ?_
  refine v_iload_n dX4_isOf_1 rfl rfl ?_
  refine u_callV [.int a1] mX4_has iX4_has lX4_37 dX4_isOf_2 sh_2 rfl rfl (by decide) ⟨rfl, rfl, id⟩ rfl rfl (Nat.le_of_ble_eq_true rfl) (Nat.le_of_ble_eq_true rfl) (v_X4_has a1 _ _ h) ?_
  rintro _ τ2 ⟨r1, rfl, h⟩
  refine v_if_ne (tgt := 10) dX4_isOf_5 (by decide) (fun c3 => ?_) (fun c3 => ?_)
  · have h := h.1 c3
    refine v_aload_n dX4_isOf_10 rfl rfl ?_
    refine u_getr fX4_9 dX4_isOf_11 sh_2 rfl (by decide) (rf_2_0 _) ?_
    refine v_iload_n dX4_isOf_14 rfl rfl ?_
    obtain ⟨j4, e_j4, l_j4, h⟩ := h
    refine u_iald dX4_isOf_15 sh_3 (by decide) (by decide) e_j4 l_j4 ?_
    refine v_topi (fun v5 e_v5 => ?_)
    have h := h v5 e_v5
    refine v_istore_n dX4_isOf_16 rfl (by decide) rfl ?_
    refine v_ls (ls2 := [some (.ref 2), some (.int a1), some (.int a2), some (.int v5)]) rfl ?_
    refine v_iload_n dX4_isOf_17 rfl rfl ?_
    refine v_iload_n dX4_isOf_18 rfl rfl ?_
    refine v_icmp_eq (tgt := 41) dX4_isOf_19 (by decide) (fun c6 => ?_) (fun c6 => ?_)
    · have h := h.1 c6
      refine v_iconst (v := 1) dX4_isOf_41 (by decide) ?_
      refine v_goto (tgt := 46) dX4_isOf_42 (by decide) ?_
      exact u_zret dX4_isOf_46 rfl ⟨rfl, id⟩ h
    · have h := h.2 c6
      refine v_iload_n dX4_isOf_22 rfl rfl ?_
      refine v_if_ne (tgt := 31) dX4_isOf_23 (by decide) (fun c7 => ?_) (fun c7 => ?_)
      · have h := h.1 c7
        refine v_iload_n dX4_isOf_31 rfl rfl ?_
        refine v_iconst (v := 1) dX4_isOf_32 (by decide) ?_
        refine v_icmp_ne (tgt := 45) dX4_isOf_33 (by decide) (fun c8 => ?_) (fun c8 => ?_)
        · have h := h.1 c8
          refine v_iconst (v := 0) dX4_isOf_45 (by decide) ?_
          exact u_zret dX4_isOf_46 rfl ⟨rfl, id⟩ h
        · have h := h.2 c8
          refine v_iload_n dX4_isOf_36 rfl rfl ?_
          refine v_iconst (v := 2) dX4_isOf_37 (by decide) ?_
          refine v_icmp_ne (tgt := 45) dX4_isOf_38 (by decide) (fun c9 => ?_) (fun c9 => ?_)
          · have h := h.1 c9
            refine v_iconst (v := 0) dX4_isOf_45 (by decide) ?_
            exact u_zret dX4_isOf_46 rfl ⟨rfl, id⟩ h
          · have h := h.2 c9
            refine v_iconst (v := 1) dX4_isOf_41 (by decide) ?_
            refine v_goto (tgt := 46) dX4_isOf_42 (by decide) ?_
            exact u_zret dX4_isOf_46 rfl ⟨rfl, id⟩ h
      · have h := h.2 c7
        refine v_iload_n dX4_isOf_26 rfl rfl ?_
        refine v_iconst (v := 4) dX4_isOf_27 (by decide) ?_
        refine v_icmp_ne (tgt := 41) dX4_isOf_28 (by decide) (fun c10 => ?_) (fun c10 => ?_)
        · have h := h.1 c10
          refine v_iconst (v := 1) dX4_isOf_41 (by decide) ?_
          refine v_goto (tgt := 46) dX4_isOf_42 (by decide) ?_
          exact u_zret dX4_isOf_46 rfl ⟨rfl, id⟩ h
        · have h := h.2 c10
          refine v_iload_n dX4_isOf_31 rfl rfl ?_
          refine v_iconst (v := 1) dX4_isOf_32 (by decide) ?_
          refine v_icmp_ne (tgt := 45) dX4_isOf_33 (by decide) (fun c11 => ?_) (fun c11 => ?_)
          · have h := h.1 c11
            refine v_iconst (v := 0) dX4_isOf_45 (by decide) ?_
            exact u_zret dX4_isOf_46 rfl ⟨rfl, id⟩ h
          · have h := h.2 c11
            refine v_iload_n dX4_isOf_36 rfl rfl ?_
            refine v_iconst (v := 2) dX4_isOf_37 (by decide) ?_
            refine v_icmp_ne (tgt := 45) dX4_isOf_38 (by decide) (fun c12 => ?_) (fun c12 => ?_)
            · have h := h.1 c12
              refine v_iconst (v := 0) dX4_isOf_45 (by decide) ?_
              exact u_zret dX4_isOf_46 rfl ⟨rfl, id⟩ h
            · have h := h.2 c12
              refine v_iconst (v := 1) dX4_isOf_41 (by decide) ?_
              refine v_goto (tgt := 46) dX4_isOf_42 (by decide) ?_
              exact u_zret dX4_isOf_46 rfl ⟨rfl, id⟩ h
  · have h := h.2 c3
    refine v_iconst (v := 0) dX4_isOf_8 (by decide) ?_
    exact u_zret dX4_isOf_9 rfl ⟨rfl, id⟩ h
def T_X4_isBlind (a1 : Int32) (τ : kT) (post : Int32 → kT → Prop) : Prop := (T_X4_has a1 τ (fun r1 τ2 => ((r1 = 0 → post (0 : Int32) τ2) ∧ (¬ r1 = 0 → (∃ j4 : Nat, a1 = nI j4 ∧ j4 < 100 ∧ ((¬ (q_i τ2 3 j4) = (3 : Int32) → post (0 : Int32) τ2) ∧ ((q_i τ2 3 j4) = (3 : Int32) → post (1 : Int32) τ2)))))))
set_option maxRecDepth 100000 in
set_option maxHeartbeats 4000000 in
theorem v_X4_isBlind {d : Nat}  (a1 : Int32) (τ : kT) (post : Int32 → kT → Prop) (h : T_X4_isBlind  a1 τ post) : U yX4_isBlind cX4_isBlind 2 (some .boolean) (d + 1) kE0 0 [some (.ref 2), some (.int a1)] [] τ (k_pi post) := by
  unfold T_X4_isBlind at h
  refine v_aload_n dX4_isBlind_0 rfl rfl ?_
  refine v_iload_n dX4_isBlind_1 rfl rfl ?_
  refine u_callV [.int a1] mX4_has iX4_has lX4_37 dX4_isBlind_2 sh_2 rfl rfl (by decide) ⟨rfl, rfl, id⟩ rfl rfl (Nat.le_of_ble_eq_true rfl) (Nat.le_of_ble_eq_true rfl) (v_X4_has a1 _ _ h) ?_
  rintro _ τ2 ⟨r1, rfl, h⟩
  refine v_if_eq (tgt := 22) dX4_isBlind_5 (by decide) (fun c3 => ?_) (fun c3 => ?_)
  · have h := h.1 c3
    refine v_iconst (v := 0) dX4_isBlind_22 (by decide) ?_
    exact u_zret dX4_isBlind_23 rfl ⟨rfl, id⟩ h
  · have h := h.2 c3
    refine v_aload_n dX4_isBlind_8 rfl rfl ?_
    refine u_getr fX4_9 dX4_isBlind_9 sh_2 rfl (by decide) (rf_2_0 _) ?_
    refine v_iload_n dX4_isBlind_12 rfl rfl ?_
    obtain ⟨j4, e_j4, l_j4, h⟩ := h
    refine u_iald dX4_isBlind_13 sh_3 (by decide) (by decide) e_j4 l_j4 ?_
    refine v_iconst (v := 3) dX4_isBlind_14 (by decide) ?_
    refine v_icmp_ne (tgt := 22) dX4_isBlind_15 (by decide) (fun c5 => ?_) (fun c5 => ?_)
    · have h := h.1 c5
      refine v_iconst (v := 0) dX4_isBlind_22 (by decide) ?_
      exact u_zret dX4_isBlind_23 rfl ⟨rfl, id⟩ h
    · have h := h.2 c5
      refine v_iconst (v := 1) dX4_isBlind_18 (by decide) ?_
      refine v_goto (tgt := 23) dX4_isBlind_19 (by decide) ?_
      exact u_zret dX4_isBlind_23 rfl ⟨rfl, id⟩ h
def T_X4_most (a1 : Int32) (τ : kT) (post : Int32 → kT → Prop) : Prop := (T_X4_isOf a1 (1 : Int32) τ (fun r1 τ2 => ((r1 = 0 → (T_X4_isBlind a1 τ2 (fun r4 τ5 => ((r4 = 0 → post (1 : Int32) τ5) ∧ (¬ r4 = 0 → post (0 : Int32) τ5))))) ∧ (¬ r1 = 0 → post (4 : Int32) τ2))))
set_option maxRecDepth 100000 in
set_option maxHeartbeats 4000000 in
theorem v_X4_most {d : Nat}  (a1 : Int32) (τ : kT) (post : Int32 → kT → Prop) (h : T_X4_most  a1 τ post) : U yX4_most cX4_most 2 (some .int) (d + 2) kE0 0 [some (.ref 2), some (.int a1)] [] τ (k_pi post) := by
  unfold T_X4_most at h
  refine v_aload_n dX4_most_0 rfl rfl ?_
  refine v_iload_n dX4_most_1 rfl rfl ?_
  refine v_iconst (v := 1) dX4_most_2 (by decide) ?_
  refine u_callV [.int a1, .int (1 : Int32)] mX4_isOf iX4_isOf lX4_41 dX4_most_3 sh_2 rfl rfl (by decide) ⟨rfl, rfl, id⟩ rfl rfl (Nat.le_of_ble_eq_true rfl) (Nat.le_of_ble_eq_true rfl) (v_X4_isOf a1 (1 : Int32) _ _ h) ?_
  rintro _ τ2 ⟨r1, rfl, h⟩
  refine v_if_eq (tgt := 11) dX4_most_6 (by decide) (fun c3 => ?_) (fun c3 => ?_)
  · have h := h.1 c3
    refine v_aload_n dX4_most_11 rfl rfl ?_
    refine v_iload_n dX4_most_12 rfl rfl ?_
    refine u_callV [.int a1] mX4_isBlind iX4_isBlind lX4_45 dX4_most_13 sh_2 rfl rfl (by decide) ⟨rfl, rfl, id⟩ rfl rfl (Nat.le_of_ble_eq_true rfl) (Nat.le_of_ble_eq_true rfl) (v_X4_isBlind a1 _ _ h) ?_
    rintro _ τ5 ⟨r4, rfl, h⟩
    refine v_if_eq (tgt := 23) dX4_most_16 (by decide) (fun c6 => ?_) (fun c6 => ?_)
    · have h := h.1 c6
      refine v_iconst (v := 1) dX4_most_23 (by decide) ?_
      exact u_iret dX4_most_24 ⟨rfl, id⟩ h
    · have h := h.2 c6
      refine v_iconst (v := 0) dX4_most_19 (by decide) ?_
      refine v_goto (tgt := 24) dX4_most_20 (by decide) ?_
      exact u_iret dX4_most_24 ⟨rfl, id⟩ h
  · have h := h.2 c3
    refine v_iconst (v := 4) dX4_most_9 (by decide) ?_
    exact u_iret dX4_most_10 ⟨rfl, id⟩ h
def T_X10_changeHeight (a1 : Int32) (a2 : Int32) (a3 : Int32) (a4 : Int32) (τ : kT) (post : Int32 → kT → Prop) : Prop := (T_X4_has a1 τ (fun r1 τ2 => ((r1 = 0 → post (-2 : Int32) τ2) ∧ (¬ r1 = 0 → ((a3 < 0 → post (-2 : Int32) τ2) ∧ (¬ a3 < 0 → ((a3 ≤ (9 : Int32) → (T_X4_chamberFinding a1 a2 τ2 (fun r6 τ7 => ((r6 = 0 → (T_X4_heightsIn a1 a2 τ7 (fun r9 τ10 => (∀ v11 : Int32, v11 = ((1 : Int32) <<< (a3 &&& 31)) → ((a4 = 0 → (((0 : Int32) = 0 → (T_X10_remember  τ10 (fun τ15 => ((a4 = 0 → (∀ v17 : Int32, v17 = (r9 &&& (v11 ^^^ (-1 : Int32))) → (T_X4_setHeights a1 a2 v17 τ15 (fun τ19 => (T_J6_bitCount_0f7a4 v17 τ19 (fun r20 τ21 => post r20 τ21)))))) ∧ (¬ a4 = 0 → (∀ v22 : Int32, v22 = (r9 ||| v11) → (T_X4_setHeights a1 a2 v22 τ15 (fun τ24 => (T_J6_bitCount_0f7a4 v22 τ24 (fun r25 τ26 => post r25 τ26)))))))))) ∧ (¬ (0 : Int32) = 0 → (T_J6_bitCount_0f7a4 r9 τ10 (fun r27 τ28 => (T_X4_most a1 τ28 (fun r29 τ30 => ((r27 < r29 → (T_X10_remember  τ30 (fun τ33 => ((a4 = 0 → (∀ v35 : Int32, v35 = (r9 &&& (v11 ^^^ (-1 : Int32))) → (T_X4_setHeights a1 a2 v35 τ33 (fun τ37 => (T_J6_bitCount_0f7a4 v35 τ37 (fun r38 τ39 => post r38 τ39)))))) ∧ (¬ a4 = 0 → (∀ v40 : Int32, v40 = (r9 ||| v11) → (T_X4_setHeights a1 a2 v40 τ33 (fun τ42 => (T_J6_bitCount_0f7a4 v40 τ42 (fun r43 τ44 => post r43 τ44)))))))))) ∧ (¬ r27 < r29 → post (-4 : Int32) τ30))))))))) ∧ (¬ a4 = 0 → ((¬ (r9 &&& v11) = 0 → (((0 : Int32) = 0 → (T_X10_remember  τ10 (fun τ48 => ((a4 = 0 → (∀ v50 : Int32, v50 = (r9 &&& (v11 ^^^ (-1 : Int32))) → (T_X4_setHeights a1 a2 v50 τ48 (fun τ52 => (T_J6_bitCount_0f7a4 v50 τ52 (fun r53 τ54 => post r53 τ54)))))) ∧ (¬ a4 = 0 → (∀ v55 : Int32, v55 = (r9 ||| v11) → (T_X4_setHeights a1 a2 v55 τ48 (fun τ57 => (T_J6_bitCount_0f7a4 v55 τ57 (fun r58 τ59 => post r58 τ59)))))))))) ∧ (¬ (0 : Int32) = 0 → (T_J6_bitCount_0f7a4 r9 τ10 (fun r60 τ61 => (T_X4_most a1 τ61 (fun r62 τ63 => ((r60 < r62 → (T_X10_remember  τ63 (fun τ66 => ((a4 = 0 → (∀ v68 : Int32, v68 = (r9 &&& (v11 ^^^ (-1 : Int32))) → (T_X4_setHeights a1 a2 v68 τ66 (fun τ70 => (T_J6_bitCount_0f7a4 v68 τ70 (fun r71 τ72 => post r71 τ72)))))) ∧ (¬ a4 = 0 → (∀ v73 : Int32, v73 = (r9 ||| v11) → (T_X4_setHeights a1 a2 v73 τ66 (fun τ75 => (T_J6_bitCount_0f7a4 v73 τ75 (fun r76 τ77 => post r76 τ77)))))))))) ∧ (¬ r60 < r62 → post (-4 : Int32) τ63))))))))) ∧ ((r9 &&& v11) = 0 → (((1 : Int32) = 0 → (T_X10_remember  τ10 (fun τ80 => ((a4 = 0 → (∀ v82 : Int32, v82 = (r9 &&& (v11 ^^^ (-1 : Int32))) → (T_X4_setHeights a1 a2 v82 τ80 (fun τ84 => (T_J6_bitCount_0f7a4 v82 τ84 (fun r85 τ86 => post r85 τ86)))))) ∧ (¬ a4 = 0 → (∀ v87 : Int32, v87 = (r9 ||| v11) → (T_X4_setHeights a1 a2 v87 τ80 (fun τ89 => (T_J6_bitCount_0f7a4 v87 τ89 (fun r90 τ91 => post r90 τ91)))))))))) ∧ (¬ (1 : Int32) = 0 → (T_J6_bitCount_0f7a4 r9 τ10 (fun r92 τ93 => (T_X4_most a1 τ93 (fun r94 τ95 => ((r92 < r94 → (T_X10_remember  τ95 (fun τ98 => ((a4 = 0 → (∀ v100 : Int32, v100 = (r9 &&& (v11 ^^^ (-1 : Int32))) → (T_X4_setHeights a1 a2 v100 τ98 (fun τ102 => (T_J6_bitCount_0f7a4 v100 τ102 (fun r103 τ104 => post r103 τ104)))))) ∧ (¬ a4 = 0 → (∀ v105 : Int32, v105 = (r9 ||| v11) → (T_X4_setHeights a1 a2 v105 τ98 (fun τ107 => (T_J6_bitCount_0f7a4 v105 τ107 (fun r108 τ109 => post r108 τ109)))))))))) ∧ (¬ r92 < r94 → post (-4 : Int32) τ95)))))))))))))))) ∧ (¬ r6 = 0 → post r6 τ7))))) ∧ (¬ a3 ≤ (9 : Int32) → post (-2 : Int32) τ2))))))))
set_option maxRecDepth 100000 in
set_option maxHeartbeats 4000000 in
theorem v_X10_changeHeight {d : Nat}  (a1 : Int32) (a2 : Int32) (a3 : Int32) (a4 : Int32) (τ : kT) (post : Int32 → kT → Prop) (h : T_X10_changeHeight  a1 a2 a3 a4 τ post) : U yX10_changeHeight cX10_changeHeight 11 (some .int) (d + 4) kE0 0 [some (.ref 0), some (.int a1), some (.int a2), some (.int a3), some (.int a4), none, none, none, none, none, none] [] τ (k_pi post) := by
  unfold T_X10_changeHeight at h
  refine v_aload_n dX10_changeHeight_0 rfl rfl ?_
  refine u_getr fX10_10 dX10_changeHeight_1 sh_0 rfl (by decide) (rf_0_0 _) ?_
  refine u_getr fX10_72 dX10_changeHeight_4 sh_1 rfl (by decide) (rf_1_0 _) ?_
  refine v_astore dX10_changeHeight_7 (by decide) rfl ?_
  refine v_ls (ls2 := [some (.ref 0), some (.int a1), some (.int a2), some (.int a3), some (.int a4), some (.ref 2), none, none, none, none, none]) rfl ?_
  refine v_aload dX10_changeHeight_9 rfl ?_
  refine v_iload_n dX10_changeHeight_11 rfl rfl ?_
  refine u_callV [.int a1] mX4_has iX4_has lX10_104 dX10_changeHeight_12 sh_2 rfl rfl (by decide) ⟨rfl, rfl, id⟩ rfl rfl (Nat.le_of_ble_eq_true rfl) (Nat.le_of_ble_eq_true rfl) (v_X4_has a1 _ _ h) ?_
  rintro _ τ2 ⟨r1, rfl, h⟩
  refine v_if_eq (tgt := 28) dX10_changeHeight_15 (by decide) (fun c3 => ?_) (fun c3 => ?_)
  · have h := h.1 c3
    refine v_bipush (v := -2) dX10_changeHeight_28 (by decide) ?_
    exact u_iret dX10_changeHeight_30 ⟨rfl, id⟩ h
  · have h := h.2 c3
    refine v_iload_n dX10_changeHeight_18 rfl rfl ?_
    refine v_if_lt (tgt := 28) dX10_changeHeight_19 (by decide) (fun c4 => ?_) (fun c4 => ?_)
    · have h := h.1 c4
      refine v_bipush (v := -2) dX10_changeHeight_28 (by decide) ?_
      exact u_iret dX10_changeHeight_30 ⟨rfl, id⟩ h
    · have h := h.2 c4
      refine v_iload_n dX10_changeHeight_22 rfl rfl ?_
      refine v_bipush (v := 9) dX10_changeHeight_23 (by decide) ?_
      refine v_icmp_le (tgt := 31) dX10_changeHeight_25 (by decide) (fun c5 => ?_) (fun c5 => ?_)
      · have h := h.1 c5
        refine v_aload dX10_changeHeight_31 rfl ?_
        refine v_iload_n dX10_changeHeight_33 rfl rfl ?_
        refine v_iload_n dX10_changeHeight_34 rfl rfl ?_
        refine u_callV [.int a1, .int a2] mX4_chamberFinding iX4_chamberFinding lX10_107 dX10_changeHeight_35 sh_2 rfl rfl (by decide) ⟨rfl, rfl, id⟩ rfl rfl (Nat.le_of_ble_eq_true rfl) (Nat.le_of_ble_eq_true rfl) (v_X4_chamberFinding a1 a2 _ _ h) ?_
        rintro _ τ7 ⟨r6, rfl, h⟩
        refine v_istore dX10_changeHeight_38 (by decide) rfl ?_
        refine v_ls (ls2 := [some (.ref 0), some (.int a1), some (.int a2), some (.int a3), some (.int a4), some (.ref 2), some (.int r6), none, none, none, none]) rfl ?_
        refine v_iload dX10_changeHeight_40 rfl ?_
        refine v_if_eq (tgt := 48) dX10_changeHeight_42 (by decide) (fun c8 => ?_) (fun c8 => ?_)
        · have h := h.1 c8
          refine v_aload dX10_changeHeight_48 rfl ?_
          refine v_iload_n dX10_changeHeight_50 rfl rfl ?_
          refine v_iload_n dX10_changeHeight_51 rfl rfl ?_
          refine u_callV [.int a1, .int a2] mX4_heightsIn iX4_heightsIn lX10_110 dX10_changeHeight_52 sh_2 rfl rfl (by decide) ⟨rfl, rfl, id⟩ rfl rfl (Nat.le_of_ble_eq_true rfl) (Nat.le_of_ble_eq_true rfl) (v_X4_heightsIn a1 a2 _ _ h) ?_
          rintro _ τ10 ⟨r9, rfl, h⟩
          refine v_istore dX10_changeHeight_55 (by decide) rfl ?_
          refine v_ls (ls2 := [some (.ref 0), some (.int a1), some (.int a2), some (.int a3), some (.int a4), some (.ref 2), some (.int r6), some (.int r9), none, none, none]) rfl ?_
          refine v_iconst (v := 1) dX10_changeHeight_57 (by decide) ?_
          refine v_iload_n dX10_changeHeight_58 rfl rfl ?_
          refine v_ishl dX10_changeHeight_59 ?_
          refine v_topi (fun v11 e_v11 => ?_)
          have h := h v11 e_v11
          refine v_istore dX10_changeHeight_60 (by decide) rfl ?_
          refine v_ls (ls2 := [some (.ref 0), some (.int a1), some (.int a2), some (.int a3), some (.int a4), some (.ref 2), some (.int r6), some (.int r9), some (.int v11), none, none]) rfl ?_
          refine v_iload dX10_changeHeight_62 rfl ?_
          refine v_if_eq (tgt := 79) dX10_changeHeight_64 (by decide) (fun c12 => ?_) (fun c12 => ?_)
          · have h := h.1 c12
            refine v_iconst (v := 0) dX10_changeHeight_79 (by decide) ?_
            refine v_istore dX10_changeHeight_80 (by decide) rfl ?_
            refine v_ls (ls2 := [some (.ref 0), some (.int a1), some (.int a2), some (.int a3), some (.int a4), some (.ref 2), some (.int r6), some (.int r9), some (.int v11), some (.int (0 : Int32)), none]) rfl ?_
            refine v_iload dX10_changeHeight_82 rfl ?_
            refine v_if_eq (tgt := 104) dX10_changeHeight_84 (by decide) (fun c13 => ?_) (fun c13 => ?_)
            · have h := h.1 c13
              refine v_aload_n dX10_changeHeight_104 rfl rfl ?_
              refine u_callV [] mX10_remember iX10_remember lX10_81 dX10_changeHeight_105 sh_0 rfl rfl (by decide) ⟨rfl, rfl, id⟩ rfl rfl (Nat.le_of_ble_eq_true rfl) (Nat.le_of_ble_eq_true rfl) (v_X10_remember  _ _ h) ?_
              rintro _ τ15 ⟨rfl, h⟩
              refine v_iload dX10_changeHeight_108 rfl ?_
              refine v_if_eq (tgt := 121) dX10_changeHeight_110 (by decide) (fun c16 => ?_) (fun c16 => ?_)
              · have h := h.1 c16
                refine v_iload dX10_changeHeight_121 rfl ?_
                refine v_iload dX10_changeHeight_123 rfl ?_
                refine v_iconst (v := -1) dX10_changeHeight_125 (by decide) ?_
                refine v_ixor dX10_changeHeight_126 ?_
                refine v_iand dX10_changeHeight_127 ?_
                refine v_topi (fun v17 e_v17 => ?_)
                have h := h v17 e_v17
                refine v_istore dX10_changeHeight_128 (by decide) rfl ?_
                refine v_ls (ls2 := [some (.ref 0), some (.int a1), some (.int a2), some (.int a3), some (.int a4), some (.ref 2), some (.int r6), some (.int r9), some (.int v11), some (.int (0 : Int32)), some (.int v17)]) rfl ?_
                refine v_aload dX10_changeHeight_130 rfl ?_
                refine v_iload_n dX10_changeHeight_132 rfl rfl ?_
                refine v_iload_n dX10_changeHeight_133 rfl rfl ?_
                refine v_iload dX10_changeHeight_134 rfl ?_
                refine u_callV [.int a1, .int a2, .int v17] mX4_setHeights iX4_setHeights lX10_121 dX10_changeHeight_136 sh_2 rfl rfl (by decide) ⟨rfl, rfl, id⟩ rfl rfl (Nat.le_of_ble_eq_true rfl) (Nat.le_of_ble_eq_true rfl) (v_X4_setHeights a1 a2 v17 _ _ h) ?_
                rintro _ τ19 ⟨rfl, h⟩
                refine v_iload dX10_changeHeight_139 rfl ?_
                refine u_callS [.int v17] mJ6_bitCount_0f7a4 sJ6_bitCount_0f7a4 lX10_113 dX10_changeHeight_141 ⟨rfl, rfl, id⟩ rfl rfl (Nat.le_of_ble_eq_true rfl) (Nat.le_of_ble_eq_true rfl) (v_J6_bitCount_0f7a4 v17 _ _ h) ?_
                rintro _ τ21 ⟨r20, rfl, h⟩
                exact u_iret dX10_changeHeight_144 ⟨rfl, id⟩ h
              · have h := h.2 c16
                refine v_iload dX10_changeHeight_113 rfl ?_
                refine v_iload dX10_changeHeight_115 rfl ?_
                refine v_ior dX10_changeHeight_117 ?_
                refine v_goto (tgt := 128) dX10_changeHeight_118 (by decide) ?_
                refine v_topi (fun v22 e_v22 => ?_)
                have h := h v22 e_v22
                refine v_istore dX10_changeHeight_128 (by decide) rfl ?_
                refine v_ls (ls2 := [some (.ref 0), some (.int a1), some (.int a2), some (.int a3), some (.int a4), some (.ref 2), some (.int r6), some (.int r9), some (.int v11), some (.int (0 : Int32)), some (.int v22)]) rfl ?_
                refine v_aload dX10_changeHeight_130 rfl ?_
                refine v_iload_n dX10_changeHeight_132 rfl rfl ?_
                refine v_iload_n dX10_changeHeight_133 rfl rfl ?_
                refine v_iload dX10_changeHeight_134 rfl ?_
                refine u_callV [.int a1, .int a2, .int v22] mX4_setHeights iX4_setHeights lX10_121 dX10_changeHeight_136 sh_2 rfl rfl (by decide) ⟨rfl, rfl, id⟩ rfl rfl (Nat.le_of_ble_eq_true rfl) (Nat.le_of_ble_eq_true rfl) (v_X4_setHeights a1 a2 v22 _ _ h) ?_
                rintro _ τ24 ⟨rfl, h⟩
                refine v_iload dX10_changeHeight_139 rfl ?_
                refine u_callS [.int v22] mJ6_bitCount_0f7a4 sJ6_bitCount_0f7a4 lX10_113 dX10_changeHeight_141 ⟨rfl, rfl, id⟩ rfl rfl (Nat.le_of_ble_eq_true rfl) (Nat.le_of_ble_eq_true rfl) (v_J6_bitCount_0f7a4 v22 _ _ h) ?_
                rintro _ τ26 ⟨r25, rfl, h⟩
                exact u_iret dX10_changeHeight_144 ⟨rfl, id⟩ h
            · have h := h.2 c13
              refine v_iload dX10_changeHeight_87 rfl ?_
              refine u_callS [.int r9] mJ6_bitCount_0f7a4 sJ6_bitCount_0f7a4 lX10_113 dX10_changeHeight_89 ⟨rfl, rfl, id⟩ rfl rfl (Nat.le_of_ble_eq_true rfl) (Nat.le_of_ble_eq_true rfl) (v_J6_bitCount_0f7a4 r9 _ _ h) ?_
              rintro _ τ28 ⟨r27, rfl, h⟩
              refine v_aload dX10_changeHeight_92 rfl ?_
              refine v_iload_n dX10_changeHeight_94 rfl rfl ?_
              refine u_callV [.int a1] mX4_most iX4_most lX10_118 dX10_changeHeight_95 sh_2 rfl rfl (by decide) ⟨rfl, rfl, id⟩ rfl rfl (Nat.le_of_ble_eq_true rfl) (Nat.le_of_ble_eq_true rfl) (v_X4_most a1 _ _ h) ?_
              rintro _ τ30 ⟨r29, rfl, h⟩
              refine v_icmp_lt (tgt := 104) dX10_changeHeight_98 (by decide) (fun c31 => ?_) (fun c31 => ?_)
              · have h := h.1 c31
                refine v_aload_n dX10_changeHeight_104 rfl rfl ?_
                refine u_callV [] mX10_remember iX10_remember lX10_81 dX10_changeHeight_105 sh_0 rfl rfl (by decide) ⟨rfl, rfl, id⟩ rfl rfl (Nat.le_of_ble_eq_true rfl) (Nat.le_of_ble_eq_true rfl) (v_X10_remember  _ _ h) ?_
                rintro _ τ33 ⟨rfl, h⟩
                refine v_iload dX10_changeHeight_108 rfl ?_
                refine v_if_eq (tgt := 121) dX10_changeHeight_110 (by decide) (fun c34 => ?_) (fun c34 => ?_)
                · have h := h.1 c34
                  refine v_iload dX10_changeHeight_121 rfl ?_
                  refine v_iload dX10_changeHeight_123 rfl ?_
                  refine v_iconst (v := -1) dX10_changeHeight_125 (by decide) ?_
                  refine v_ixor dX10_changeHeight_126 ?_
                  refine v_iand dX10_changeHeight_127 ?_
                  refine v_topi (fun v35 e_v35 => ?_)
                  have h := h v35 e_v35
                  refine v_istore dX10_changeHeight_128 (by decide) rfl ?_
                  refine v_ls (ls2 := [some (.ref 0), some (.int a1), some (.int a2), some (.int a3), some (.int a4), some (.ref 2), some (.int r6), some (.int r9), some (.int v11), some (.int (0 : Int32)), some (.int v35)]) rfl ?_
                  refine v_aload dX10_changeHeight_130 rfl ?_
                  refine v_iload_n dX10_changeHeight_132 rfl rfl ?_
                  refine v_iload_n dX10_changeHeight_133 rfl rfl ?_
                  refine v_iload dX10_changeHeight_134 rfl ?_
                  refine u_callV [.int a1, .int a2, .int v35] mX4_setHeights iX4_setHeights lX10_121 dX10_changeHeight_136 sh_2 rfl rfl (by decide) ⟨rfl, rfl, id⟩ rfl rfl (Nat.le_of_ble_eq_true rfl) (Nat.le_of_ble_eq_true rfl) (v_X4_setHeights a1 a2 v35 _ _ h) ?_
                  rintro _ τ37 ⟨rfl, h⟩
                  refine v_iload dX10_changeHeight_139 rfl ?_
                  refine u_callS [.int v35] mJ6_bitCount_0f7a4 sJ6_bitCount_0f7a4 lX10_113 dX10_changeHeight_141 ⟨rfl, rfl, id⟩ rfl rfl (Nat.le_of_ble_eq_true rfl) (Nat.le_of_ble_eq_true rfl) (v_J6_bitCount_0f7a4 v35 _ _ h) ?_
                  rintro _ τ39 ⟨r38, rfl, h⟩
                  exact u_iret dX10_changeHeight_144 ⟨rfl, id⟩ h
                · have h := h.2 c34
                  refine v_iload dX10_changeHeight_113 rfl ?_
                  refine v_iload dX10_changeHeight_115 rfl ?_
                  refine v_ior dX10_changeHeight_117 ?_
                  refine v_goto (tgt := 128) dX10_changeHeight_118 (by decide) ?_
                  refine v_topi (fun v40 e_v40 => ?_)
                  have h := h v40 e_v40
                  refine v_istore dX10_changeHeight_128 (by decide) rfl ?_
                  refine v_ls (ls2 := [some (.ref 0), some (.int a1), some (.int a2), some (.int a3), some (.int a4), some (.ref 2), some (.int r6), some (.int r9), some (.int v11), some (.int (0 : Int32)), some (.int v40)]) rfl ?_
                  refine v_aload dX10_changeHeight_130 rfl ?_
                  refine v_iload_n dX10_changeHeight_132 rfl rfl ?_
                  refine v_iload_n dX10_changeHeight_133 rfl rfl ?_
                  refine v_iload dX10_changeHeight_134 rfl ?_
                  refine u_callV [.int a1, .int a2, .int v40] mX4_setHeights iX4_setHeights lX10_121 dX10_changeHeight_136 sh_2 rfl rfl (by decide) ⟨rfl, rfl, id⟩ rfl rfl (Nat.le_of_ble_eq_true rfl) (Nat.le_of_ble_eq_true rfl) (v_X4_setHeights a1 a2 v40 _ _ h) ?_
                  rintro _ τ42 ⟨rfl, h⟩
                  refine v_iload dX10_changeHeight_139 rfl ?_
                  refine u_callS [.int v40] mJ6_bitCount_0f7a4 sJ6_bitCount_0f7a4 lX10_113 dX10_changeHeight_141 ⟨rfl, rfl, id⟩ rfl rfl (Nat.le_of_ble_eq_true rfl) (Nat.le_of_ble_eq_true rfl) (v_J6_bitCount_0f7a4 v40 _ _ h) ?_
                  rintro _ τ44 ⟨r43, rfl, h⟩
                  exact u_iret dX10_changeHeight_144 ⟨rfl, id⟩ h
              · have h := h.2 c31
                refine v_bipush (v := -4) dX10_changeHeight_101 (by decide) ?_
                exact u_iret dX10_changeHeight_103 ⟨rfl, id⟩ h
          · have h := h.2 c12
            refine v_iload dX10_changeHeight_67 rfl ?_
            refine v_iload dX10_changeHeight_69 rfl ?_
            refine v_iand dX10_changeHeight_71 ?_
            refine v_if_ne (tgt := 79) dX10_changeHeight_72 (by decide) (fun c45 => ?_) (fun c45 => ?_)
            · have h := h.1 c45
              refine v_iconst (v := 0) dX10_changeHeight_79 (by decide) ?_
              refine v_istore dX10_changeHeight_80 (by decide) rfl ?_
              refine v_ls (ls2 := [some (.ref 0), some (.int a1), some (.int a2), some (.int a3), some (.int a4), some (.ref 2), some (.int r6), some (.int r9), some (.int v11), some (.int (0 : Int32)), none]) rfl ?_
              refine v_iload dX10_changeHeight_82 rfl ?_
              refine v_if_eq (tgt := 104) dX10_changeHeight_84 (by decide) (fun c46 => ?_) (fun c46 => ?_)
              · have h := h.1 c46
                refine v_aload_n dX10_changeHeight_104 rfl rfl ?_
                refine u_callV [] mX10_remember iX10_remember lX10_81 dX10_changeHeight_105 sh_0 rfl rfl (by decide) ⟨rfl, rfl, id⟩ rfl rfl (Nat.le_of_ble_eq_true rfl) (Nat.le_of_ble_eq_true rfl) (v_X10_remember  _ _ h) ?_
                rintro _ τ48 ⟨rfl, h⟩
                refine v_iload dX10_changeHeight_108 rfl ?_
                refine v_if_eq (tgt := 121) dX10_changeHeight_110 (by decide) (fun c49 => ?_) (fun c49 => ?_)
                · have h := h.1 c49
                  refine v_iload dX10_changeHeight_121 rfl ?_
                  refine v_iload dX10_changeHeight_123 rfl ?_
                  refine v_iconst (v := -1) dX10_changeHeight_125 (by decide) ?_
                  refine v_ixor dX10_changeHeight_126 ?_
                  refine v_iand dX10_changeHeight_127 ?_
                  refine v_topi (fun v50 e_v50 => ?_)
                  have h := h v50 e_v50
                  refine v_istore dX10_changeHeight_128 (by decide) rfl ?_
                  refine v_ls (ls2 := [some (.ref 0), some (.int a1), some (.int a2), some (.int a3), some (.int a4), some (.ref 2), some (.int r6), some (.int r9), some (.int v11), some (.int (0 : Int32)), some (.int v50)]) rfl ?_
                  refine v_aload dX10_changeHeight_130 rfl ?_
                  refine v_iload_n dX10_changeHeight_132 rfl rfl ?_
                  refine v_iload_n dX10_changeHeight_133 rfl rfl ?_
                  refine v_iload dX10_changeHeight_134 rfl ?_
                  refine u_callV [.int a1, .int a2, .int v50] mX4_setHeights iX4_setHeights lX10_121 dX10_changeHeight_136 sh_2 rfl rfl (by decide) ⟨rfl, rfl, id⟩ rfl rfl (Nat.le_of_ble_eq_true rfl) (Nat.le_of_ble_eq_true rfl) (v_X4_setHeights a1 a2 v50 _ _ h) ?_
                  rintro _ τ52 ⟨rfl, h⟩
                  refine v_iload dX10_changeHeight_139 rfl ?_
                  refine u_callS [.int v50] mJ6_bitCount_0f7a4 sJ6_bitCount_0f7a4 lX10_113 dX10_changeHeight_141 ⟨rfl, rfl, id⟩ rfl rfl (Nat.le_of_ble_eq_true rfl) (Nat.le_of_ble_eq_true rfl) (v_J6_bitCount_0f7a4 v50 _ _ h) ?_
                  rintro _ τ54 ⟨r53, rfl, h⟩
                  exact u_iret dX10_changeHeight_144 ⟨rfl, id⟩ h
                · have h := h.2 c49
                  refine v_iload dX10_changeHeight_113 rfl ?_
                  refine v_iload dX10_changeHeight_115 rfl ?_
                  refine v_ior dX10_changeHeight_117 ?_
                  refine v_goto (tgt := 128) dX10_changeHeight_118 (by decide) ?_
                  refine v_topi (fun v55 e_v55 => ?_)
                  have h := h v55 e_v55
                  refine v_istore dX10_changeHeight_128 (by decide) rfl ?_
                  refine v_ls (ls2 := [some (.ref 0), some (.int a1), some (.int a2), some (.int a3), some (.int a4), some (.ref 2), some (.int r6), some (.int r9), some (.int v11), some (.int (0 : Int32)), some (.int v55)]) rfl ?_
                  refine v_aload dX10_changeHeight_130 rfl ?_
                  refine v_iload_n dX10_changeHeight_132 rfl rfl ?_
                  refine v_iload_n dX10_changeHeight_133 rfl rfl ?_
                  refine v_iload dX10_changeHeight_134 rfl ?_
                  refine u_callV [.int a1, .int a2, .int v55] mX4_setHeights iX4_setHeights lX10_121 dX10_changeHeight_136 sh_2 rfl rfl (by decide) ⟨rfl, rfl, id⟩ rfl rfl (Nat.le_of_ble_eq_true rfl) (Nat.le_of_ble_eq_true rfl) (v_X4_setHeights a1 a2 v55 _ _ h) ?_
                  rintro _ τ57 ⟨rfl, h⟩
                  refine v_iload dX10_changeHeight_139 rfl ?_
                  refine u_callS [.int v55] mJ6_bitCount_0f7a4 sJ6_bitCount_0f7a4 lX10_113 dX10_changeHeight_141 ⟨rfl, rfl, id⟩ rfl rfl (Nat.le_of_ble_eq_true rfl) (Nat.le_of_ble_eq_true rfl) (v_J6_bitCount_0f7a4 v55 _ _ h) ?_
                  rintro _ τ59 ⟨r58, rfl, h⟩
                  exact u_iret dX10_changeHeight_144 ⟨rfl, id⟩ h
              · have h := h.2 c46
                refine v_iload dX10_changeHeight_87 rfl ?_
                refine u_callS [.int r9] mJ6_bitCount_0f7a4 sJ6_bitCount_0f7a4 lX10_113 dX10_changeHeight_89 ⟨rfl, rfl, id⟩ rfl rfl (Nat.le_of_ble_eq_true rfl) (Nat.le_of_ble_eq_true rfl) (v_J6_bitCount_0f7a4 r9 _ _ h) ?_
                rintro _ τ61 ⟨r60, rfl, h⟩
                refine v_aload dX10_changeHeight_92 rfl ?_
                refine v_iload_n dX10_changeHeight_94 rfl rfl ?_
                refine u_callV [.int a1] mX4_most iX4_most lX10_118 dX10_changeHeight_95 sh_2 rfl rfl (by decide) ⟨rfl, rfl, id⟩ rfl rfl (Nat.le_of_ble_eq_true rfl) (Nat.le_of_ble_eq_true rfl) (v_X4_most a1 _ _ h) ?_
                rintro _ τ63 ⟨r62, rfl, h⟩
                refine v_icmp_lt (tgt := 104) dX10_changeHeight_98 (by decide) (fun c64 => ?_) (fun c64 => ?_)
                · have h := h.1 c64
                  refine v_aload_n dX10_changeHeight_104 rfl rfl ?_
                  refine u_callV [] mX10_remember iX10_remember lX10_81 dX10_changeHeight_105 sh_0 rfl rfl (by decide) ⟨rfl, rfl, id⟩ rfl rfl (Nat.le_of_ble_eq_true rfl) (Nat.le_of_ble_eq_true rfl) (v_X10_remember  _ _ h) ?_
                  rintro _ τ66 ⟨rfl, h⟩
                  refine v_iload dX10_changeHeight_108 rfl ?_
                  refine v_if_eq (tgt := 121) dX10_changeHeight_110 (by decide) (fun c67 => ?_) (fun c67 => ?_)
                  · have h := h.1 c67
                    refine v_iload dX10_changeHeight_121 rfl ?_
                    refine v_iload dX10_changeHeight_123 rfl ?_
                    refine v_iconst (v := -1) dX10_changeHeight_125 (by decide) ?_
                    refine v_ixor dX10_changeHeight_126 ?_
                    refine v_iand dX10_changeHeight_127 ?_
                    refine v_topi (fun v68 e_v68 => ?_)
                    have h := h v68 e_v68
                    refine v_istore dX10_changeHeight_128 (by decide) rfl ?_
                    refine v_ls (ls2 := [some (.ref 0), some (.int a1), some (.int a2), some (.int a3), some (.int a4), some (.ref 2), some (.int r6), some (.int r9), some (.int v11), some (.int (0 : Int32)), some (.int v68)]) rfl ?_
                    refine v_aload dX10_changeHeight_130 rfl ?_
                    refine v_iload_n dX10_changeHeight_132 rfl rfl ?_
                    refine v_iload_n dX10_changeHeight_133 rfl rfl ?_
                    refine v_iload dX10_changeHeight_134 rfl ?_
                    refine u_callV [.int a1, .int a2, .int v68] mX4_setHeights iX4_setHeights lX10_121 dX10_changeHeight_136 sh_2 rfl rfl (by decide) ⟨rfl, rfl, id⟩ rfl rfl (Nat.le_of_ble_eq_true rfl) (Nat.le_of_ble_eq_true rfl) (v_X4_setHeights a1 a2 v68 _ _ h) ?_
                    rintro _ τ70 ⟨rfl, h⟩
                    refine v_iload dX10_changeHeight_139 rfl ?_
                    refine u_callS [.int v68] mJ6_bitCount_0f7a4 sJ6_bitCount_0f7a4 lX10_113 dX10_changeHeight_141 ⟨rfl, rfl, id⟩ rfl rfl (Nat.le_of_ble_eq_true rfl) (Nat.le_of_ble_eq_true rfl) (v_J6_bitCount_0f7a4 v68 _ _ h) ?_
                    rintro _ τ72 ⟨r71, rfl, h⟩
                    exact u_iret dX10_changeHeight_144 ⟨rfl, id⟩ h
                  · have h := h.2 c67
                    refine v_iload dX10_changeHeight_113 rfl ?_
                    refine v_iload dX10_changeHeight_115 rfl ?_
                    refine v_ior dX10_changeHeight_117 ?_
                    refine v_goto (tgt := 128) dX10_changeHeight_118 (by decide) ?_
                    refine v_topi (fun v73 e_v73 => ?_)
                    have h := h v73 e_v73
                    refine v_istore dX10_changeHeight_128 (by decide) rfl ?_
                    refine v_ls (ls2 := [some (.ref 0), some (.int a1), some (.int a2), some (.int a3), some (.int a4), some (.ref 2), some (.int r6), some (.int r9), some (.int v11), some (.int (0 : Int32)), some (.int v73)]) rfl ?_
                    refine v_aload dX10_changeHeight_130 rfl ?_
                    refine v_iload_n dX10_changeHeight_132 rfl rfl ?_
                    refine v_iload_n dX10_changeHeight_133 rfl rfl ?_
                    refine v_iload dX10_changeHeight_134 rfl ?_
                    refine u_callV [.int a1, .int a2, .int v73] mX4_setHeights iX4_setHeights lX10_121 dX10_changeHeight_136 sh_2 rfl rfl (by decide) ⟨rfl, rfl, id⟩ rfl rfl (Nat.le_of_ble_eq_true rfl) (Nat.le_of_ble_eq_true rfl) (v_X4_setHeights a1 a2 v73 _ _ h) ?_
                    rintro _ τ75 ⟨rfl, h⟩
                    refine v_iload dX10_changeHeight_139 rfl ?_
                    refine u_callS [.int v73] mJ6_bitCount_0f7a4 sJ6_bitCount_0f7a4 lX10_113 dX10_changeHeight_141 ⟨rfl, rfl, id⟩ rfl rfl (Nat.le_of_ble_eq_true rfl) (Nat.le_of_ble_eq_true rfl) (v_J6_bitCount_0f7a4 v73 _ _ h) ?_
                    rintro _ τ77 ⟨r76, rfl, h⟩
                    exact u_iret dX10_changeHeight_144 ⟨rfl, id⟩ h
                · have h := h.2 c64
                  refine v_bipush (v := -4) dX10_changeHeight_101 (by decide) ?_
                  exact u_iret dX10_changeHeight_103 ⟨rfl, id⟩ h
            · have h := h.2 c45
              refine v_iconst (v := 1) dX10_changeHeight_75 (by decide) ?_
              refine v_goto (tgt := 80) dX10_changeHeight_76 (by decide) ?_
              refine v_istore dX10_changeHeight_80 (by decide) rfl ?_
              refine v_ls (ls2 := [some (.ref 0), some (.int a1), some (.int a2), some (.int a3), some (.int a4), some (.ref 2), some (.int r6), some (.int r9), some (.int v11), some (.int (1 : Int32)), none]) rfl ?_
              refine v_iload dX10_changeHeight_82 rfl ?_
              refine v_if_eq (tgt := 104) dX10_changeHeight_84 (by decide) (fun c78 => ?_) (fun c78 => ?_)
              · have h := h.1 c78
                refine v_aload_n dX10_changeHeight_104 rfl rfl ?_
                refine u_callV [] mX10_remember iX10_remember lX10_81 dX10_changeHeight_105 sh_0 rfl rfl (by decide) ⟨rfl, rfl, id⟩ rfl rfl (Nat.le_of_ble_eq_true rfl) (Nat.le_of_ble_eq_true rfl) (v_X10_remember  _ _ h) ?_
                rintro _ τ80 ⟨rfl, h⟩
                refine v_iload dX10_changeHeight_108 rfl ?_
                refine v_if_eq (tgt := 121) dX10_changeHeight_110 (by decide) (fun c81 => ?_) (fun c81 => ?_)
                · have h := h.1 c81
                  refine v_iload dX10_changeHeight_121 rfl ?_
                  refine v_iload dX10_changeHeight_123 rfl ?_
                  refine v_iconst (v := -1) dX10_changeHeight_125 (by decide) ?_
                  refine v_ixor dX10_changeHeight_126 ?_
                  refine v_iand dX10_changeHeight_127 ?_
                  refine v_topi (fun v82 e_v82 => ?_)
                  have h := h v82 e_v82
                  refine v_istore dX10_changeHeight_128 (by decide) rfl ?_
                  refine v_ls (ls2 := [some (.ref 0), some (.int a1), some (.int a2), some (.int a3), some (.int a4), some (.ref 2), some (.int r6), some (.int r9), some (.int v11), some (.int (1 : Int32)), some (.int v82)]) rfl ?_
                  refine v_aload dX10_changeHeight_130 rfl ?_
                  refine v_iload_n dX10_changeHeight_132 rfl rfl ?_
                  refine v_iload_n dX10_changeHeight_133 rfl rfl ?_
                  refine v_iload dX10_changeHeight_134 rfl ?_
                  refine u_callV [.int a1, .int a2, .int v82] mX4_setHeights iX4_setHeights lX10_121 dX10_changeHeight_136 sh_2 rfl rfl (by decide) ⟨rfl, rfl, id⟩ rfl rfl (Nat.le_of_ble_eq_true rfl) (Nat.le_of_ble_eq_true rfl) (v_X4_setHeights a1 a2 v82 _ _ h) ?_
                  rintro _ τ84 ⟨rfl, h⟩
                  refine v_iload dX10_changeHeight_139 rfl ?_
                  refine u_callS [.int v82] mJ6_bitCount_0f7a4 sJ6_bitCount_0f7a4 lX10_113 dX10_changeHeight_141 ⟨rfl, rfl, id⟩ rfl rfl (Nat.le_of_ble_eq_true rfl) (Nat.le_of_ble_eq_true rfl) (v_J6_bitCount_0f7a4 v82 _ _ h) ?_
                  rintro _ τ86 ⟨r85, rfl, h⟩
                  exact u_iret dX10_changeHeight_144 ⟨rfl, id⟩ h
                · have h := h.2 c81
                  refine v_iload dX10_changeHeight_113 rfl ?_
                  refine v_iload dX10_changeHeight_115 rfl ?_
                  refine v_ior dX10_changeHeight_117 ?_
                  refine v_goto (tgt := 128) dX10_changeHeight_118 (by decide) ?_
                  refine v_topi (fun v87 e_v87 => ?_)
                  have h := h v87 e_v87
                  refine v_istore dX10_changeHeight_128 (by decide) rfl ?_
                  refine v_ls (ls2 := [some (.ref 0), some (.int a1), some (.int a2), some (.int a3), some (.int a4), some (.ref 2), some (.int r6), some (.int r9), some (.int v11), some (.int (1 : Int32)), some (.int v87)]) rfl ?_
                  refine v_aload dX10_changeHeight_130 rfl ?_
                  refine v_iload_n dX10_changeHeight_132 rfl rfl ?_
                  refine v_iload_n dX10_changeHeight_133 rfl rfl ?_
                  refine v_iload dX10_changeHeight_134 rfl ?_
                  refine u_callV [.int a1, .int a2, .int v87] mX4_setHeights iX4_setHeights lX10_121 dX10_changeHeight_136 sh_2 rfl rfl (by decide) ⟨rfl, rfl, id⟩ rfl rfl (Nat.le_of_ble_eq_true rfl) (Nat.le_of_ble_eq_true rfl) (v_X4_setHeights a1 a2 v87 _ _ h) ?_
                  rintro _ τ89 ⟨rfl, h⟩
                  refine v_iload dX10_changeHeight_139 rfl ?_
                  refine u_callS [.int v87] mJ6_bitCount_0f7a4 sJ6_bitCount_0f7a4 lX10_113 dX10_changeHeight_141 ⟨rfl, rfl, id⟩ rfl rfl (Nat.le_of_ble_eq_true rfl) (Nat.le_of_ble_eq_true rfl) (v_J6_bitCount_0f7a4 v87 _ _ h) ?_
                  rintro _ τ91 ⟨r90, rfl, h⟩
                  exact u_iret dX10_changeHeight_144 ⟨rfl, id⟩ h
              · have h := h.2 c78
                refine v_iload dX10_changeHeight_87 rfl ?_
                refine u_callS [.int r9] mJ6_bitCount_0f7a4 sJ6_bitCount_0f7a4 lX10_113 dX10_changeHeight_89 ⟨rfl, rfl, id⟩ rfl rfl (Nat.le_of_ble_eq_true rfl) (Nat.le_of_ble_eq_true rfl) (v_J6_bitCount_0f7a4 r9 _ _ h) ?_
                rintro _ τ93 ⟨r92, rfl, h⟩
                refine v_aload dX10_changeHeight_92 rfl ?_
                refine v_iload_n dX10_changeHeight_94 rfl rfl ?_
                refine u_callV [.int a1] mX4_most iX4_most lX10_118 dX10_changeHeight_95 sh_2 rfl rfl (by decide) ⟨rfl, rfl, id⟩ rfl rfl (Nat.le_of_ble_eq_true rfl) (Nat.le_of_ble_eq_true rfl) (v_X4_most a1 _ _ h) ?_
                rintro _ τ95 ⟨r94, rfl, h⟩
                refine v_icmp_lt (tgt := 104) dX10_changeHeight_98 (by decide) (fun c96 => ?_) (fun c96 => ?_)
                · have h := h.1 c96
                  refine v_aload_n dX10_changeHeight_104 rfl rfl ?_
                  refine u_callV [] mX10_remember iX10_remember lX10_81 dX10_changeHeight_105 sh_0 rfl rfl (by decide) ⟨rfl, rfl, id⟩ rfl rfl (Nat.le_of_ble_eq_true rfl) (Nat.le_of_ble_eq_true rfl) (v_X10_remember  _ _ h) ?_
                  rintro _ τ98 ⟨rfl, h⟩
                  refine v_iload dX10_changeHeight_108 rfl ?_
                  refine v_if_eq (tgt := 121) dX10_changeHeight_110 (by decide) (fun c99 => ?_) (fun c99 => ?_)
                  · have h := h.1 c99
                    refine v_iload dX10_changeHeight_121 rfl ?_
                    refine v_iload dX10_changeHeight_123 rfl ?_
                    refine v_iconst (v := -1) dX10_changeHeight_125 (by decide) ?_
                    refine v_ixor dX10_changeHeight_126 ?_
                    refine v_iand dX10_changeHeight_127 ?_
                    refine v_topi (fun v100 e_v100 => ?_)
                    have h := h v100 e_v100
                    refine v_istore dX10_changeHeight_128 (by decide) rfl ?_
                    refine v_ls (ls2 := [some (.ref 0), some (.int a1), some (.int a2), some (.int a3), some (.int a4), some (.ref 2), some (.int r6), some (.int r9), some (.int v11), some (.int (1 : Int32)), some (.int v100)]) rfl ?_
                    refine v_aload dX10_changeHeight_130 rfl ?_
                    refine v_iload_n dX10_changeHeight_132 rfl rfl ?_
                    refine v_iload_n dX10_changeHeight_133 rfl rfl ?_
                    refine v_iload dX10_changeHeight_134 rfl ?_
                    refine u_callV [.int a1, .int a2, .int v100] mX4_setHeights iX4_setHeights lX10_121 dX10_changeHeight_136 sh_2 rfl rfl (by decide) ⟨rfl, rfl, id⟩ rfl rfl (Nat.le_of_ble_eq_true rfl) (Nat.le_of_ble_eq_true rfl) (v_X4_setHeights a1 a2 v100 _ _ h) ?_
                    rintro _ τ102 ⟨rfl, h⟩
                    refine v_iload dX10_changeHeight_139 rfl ?_
                    refine u_callS [.int v100] mJ6_bitCount_0f7a4 sJ6_bitCount_0f7a4 lX10_113 dX10_changeHeight_141 ⟨rfl, rfl, id⟩ rfl rfl (Nat.le_of_ble_eq_true rfl) (Nat.le_of_ble_eq_true rfl) (v_J6_bitCount_0f7a4 v100 _ _ h) ?_
                    rintro _ τ104 ⟨r103, rfl, h⟩
                    exact u_iret dX10_changeHeight_144 ⟨rfl, id⟩ h
                  · have h := h.2 c99
                    refine v_iload dX10_changeHeight_113 rfl ?_
                    refine v_iload dX10_changeHeight_115 rfl ?_
                    refine v_ior dX10_changeHeight_117 ?_
                    refine v_goto (tgt := 128) dX10_changeHeight_118 (by decide) ?_
                    refine v_topi (fun v105 e_v105 => ?_)
                    have h := h v105 e_v105
                    refine v_istore dX10_changeHeight_128 (by decide) rfl ?_
                    refine v_ls (ls2 := [some (.ref 0), some (.int a1), some (.int a2), some (.int a3), some (.int a4), some (.ref 2), some (.int r6), some (.int r9), some (.int v11), some (.int (1 : Int32)), some (.int v105)]) rfl ?_
                    refine v_aload dX10_changeHeight_130 rfl ?_
                    refine v_iload_n dX10_changeHeight_132 rfl rfl ?_
                    refine v_iload_n dX10_changeHeight_133 rfl rfl ?_
                    refine v_iload dX10_changeHeight_134 rfl ?_
                    refine u_callV [.int a1, .int a2, .int v105] mX4_setHeights iX4_setHeights lX10_121 dX10_changeHeight_136 sh_2 rfl rfl (by decide) ⟨rfl, rfl, id⟩ rfl rfl (Nat.le_of_ble_eq_true rfl) (Nat.le_of_ble_eq_true rfl) (v_X4_setHeights a1 a2 v105 _ _ h) ?_
                    rintro _ τ107 ⟨rfl, h⟩
                    refine v_iload dX10_changeHeight_139 rfl ?_
                    refine u_callS [.int v105] mJ6_bitCount_0f7a4 sJ6_bitCount_0f7a4 lX10_113 dX10_changeHeight_141 ⟨rfl, rfl, id⟩ rfl rfl (Nat.le_of_ble_eq_true rfl) (Nat.le_of_ble_eq_true rfl) (v_J6_bitCount_0f7a4 v105 _ _ h) ?_
                    rintro _ τ109 ⟨r108, rfl, h⟩
                    exact u_iret dX10_changeHeight_144 ⟨rfl, id⟩ h
                · have h := h.2 c96
                  refine v_bipush (v := -4) dX10_changeHeight_101 (by decide) ?_
                  exact u_iret dX10_changeHeight_103 ⟨rfl, id⟩ h
        · have h := h.2 c8
          refine v_iload dX10_changeHeight_45 rfl ?_
          exact u_iret dX10_changeHeight_47 ⟨rfl, id⟩ h
      · have h := h.2 c5
        refine v_bipush (v := -2) dX10_changeHeight_28 (by decide) ?_
        exact u_iret dX10_changeHeight_30 ⟨rfl, id⟩ h
def T_X10_height (a1 : Int32) (a2 : Int32) (a3 : Int32) (a4 : Int32) (τ : kT) (post : Int32 → kT → Prop) : Prop := (T_X10_changeHeight a1 a2 a3 a4 τ (fun r1 τ2 => (T_X10_settle r1 τ2 (fun r3 τ4 => post r3 τ4))))
set_option maxRecDepth 100000 in
set_option maxHeartbeats 4000000 in
theorem v_X10_height {d : Nat}  (a1 : Int32) (a2 : Int32) (a3 : Int32) (a4 : Int32) (τ : kT) (post : Int32 → kT → Prop) (h : T_X10_height  a1 a2 a3 a4 τ post) : U yX10_height cX10_height 5 (some .int) (d + 5) kE0 0 [some (.ref 0), some (.int a1), some (.int a2), some (.int a3), some (.int a4)] [] τ (k_pi post) := by
  unfold T_X10_height at h
  refine v_aload_n dX10_height_0 rfl rfl ?_
  refine v_aload_n dX10_height_1 rfl rfl ?_
  refine v_iload_n dX10_height_2 rfl rfl ?_
  refine v_iload_n dX10_height_3 rfl rfl ?_
  refine v_iload_n dX10_height_4 rfl rfl ?_
  refine v_iload dX10_height_5 rfl ?_
  refine u_callV [.int a1, .int a2, .int a3, .int a4] mX10_changeHeight iX10_changeHeight lX10_100 dX10_height_7 sh_0 rfl rfl (by decide) ⟨rfl, rfl, id⟩ rfl rfl (Nat.le_of_ble_eq_true rfl) (Nat.le_of_ble_eq_true rfl) (v_X10_changeHeight a1 a2 a3 a4 _ _ h) ?_
  rintro _ τ2 ⟨r1, rfl, h⟩
  refine u_callV [.int r1] mX10_settle iX10_settle lX10_68 dX10_height_10 sh_0 rfl rfl (by decide) ⟨rfl, rfl, id⟩ rfl rfl (Nat.le_of_ble_eq_true rfl) (Nat.le_of_ble_eq_true rfl) (v_X10_settle r1 _ _ h) ?_
  rintro _ τ4 ⟨r3, rfl, h⟩
  exact u_iret dX10_height_13 ⟨rfl, id⟩ h
def L_X10_heightNumber_4  (f0 : Int32) (f1 : Int32) (K : Int32 → Int32 → kT → Prop) (post : Int32 → kT → Prop) : Nat → Int32 → Int32 → kT → Prop
  | 0, _, _, _ => False
  | n + 1, x2, x3, τ => (((9 : Int32) < x3 → K x2 x3 τ) ∧ (¬ (9 : Int32) < x3 → (((f0 &&& ((1 : Int32) <<< (x3 &&& 31))) = 0 → (∀ v3 : Int32, v3 = x3 + (1 : Int32) → L_X10_heightNumber_4 f0 f1 K post n x2 v3 τ)) ∧ (¬ (f0 &&& ((1 : Int32) <<< (x3 &&& 31))) = 0 → ((¬ x2 = f1 → (∀ v5 : Int32, v5 = x2 + (1 : Int32) → (∀ v6 : Int32, v6 = x3 + (1 : Int32) → L_X10_heightNumber_4 f0 f1 K post n v5 v6 τ))) ∧ (x2 = f1 → post x3 τ))))))
def T_X10_heightNumber (a1 : Int32) (a2 : Int32) (τ : kT) (post : Int32 → kT → Prop) : Prop := (∃ m7 : Nat, L_X10_heightNumber_4  a1 a2 (fun v8 v9 τ10 => post (-12 : Int32) τ10) post m7 (0 : Int32) (0 : Int32) τ)
set_option maxRecDepth 100000 in
set_option maxHeartbeats 4000000 in
theorem l_X10_heightNumber_4 {d : Nat}  (f0 : Int32) (f1 : Int32) {K : Int32 → Int32 → kT → Prop} {post : Int32 → kT → Prop} (hK : ∀ (x2 : Int32) (x3 : Int32) (τ : kT), K x2 x3 τ → U yX10_heightNumber cX10_heightNumber 4 (some .int) (d + 0) kE0 34 [some (.int f0), some (.int f1), some (.int x2), some (.int x3)] [] τ (k_pi post)) : ∀ (n : Nat) (x2 : Int32) (x3 : Int32) (τ : kT), L_X10_heightNumber_4  f0 f1 K post n x2 x3 τ → U yX10_heightNumber cX10_heightNumber 4 (some .int) (d + 0) kE0 4 [some (.int f0), some (.int f1), some (.int x2), some (.int x3)] [] τ (k_pi post) := by
  intro n
  induction n with
  | zero => intro x2 x3 τ h; exact h.elim
  | succ n ih =>
    intro x2 x3 τ h
    unfold L_X10_heightNumber_4 at h
    refine v_iload_n dX10_heightNumber_4 rfl rfl ?_
    refine v_bipush (v := 9) dX10_heightNumber_5 (by decide) ?_
    refine v_icmp_gt (tgt := 34) dX10_heightNumber_7 (by decide) (fun c1 => ?_) (fun c1 => ?_)
    · have h := h.1 c1
      exact hK x2 x3 _ h
    · have h := h.2 c1
      refine v_iload_n dX10_heightNumber_10 rfl rfl ?_
      refine v_iconst (v := 1) dX10_heightNumber_11 (by decide) ?_
      refine v_iload_n dX10_heightNumber_12 rfl rfl ?_
      refine v_ishl dX10_heightNumber_13 ?_
      refine v_iand dX10_heightNumber_14 ?_
      refine v_if_eq (tgt := 28) dX10_heightNumber_15 (by decide) (fun c2 => ?_) (fun c2 => ?_)
      · have h := h.1 c2
        obtain ⟨v3, e_v3⟩ : ∃ z : Int32, z = x3 + (1 : Int32) := ⟨_, rfl⟩
        have h := h v3 e_v3
        refine v_iinc (v := v3) dX10_heightNumber_28 rfl (by rw [e_v3]; rfl) (by decide) rfl ?_
        refine v_ls (ls2 := [some (.int f0), some (.int f1), some (.int x2), some (.int v3)]) rfl ?_
        refine v_goto (tgt := 4) dX10_heightNumber_31 (by decide) ?_
        exact ih x2 v3 _ h
      · have h := h.2 c2
        refine v_iload_n dX10_heightNumber_18 rfl rfl ?_
        refine v_iload_n dX10_heightNumber_19 rfl rfl ?_
        refine v_icmp_ne (tgt := 25) dX10_heightNumber_20 (by decide) (fun c4 => ?_) (fun c4 => ?_)
        · have h := h.1 c4
          obtain ⟨v5, e_v5⟩ : ∃ z : Int32, z = x2 + (1 : Int32) := ⟨_, rfl⟩
          have h := h v5 e_v5
          refine v_iinc (v := v5) dX10_heightNumber_25 rfl (by rw [e_v5]; rfl) (by decide) rfl ?_
          refine v_ls (ls2 := [some (.int f0), some (.int f1), some (.int v5), some (.int x3)]) rfl ?_
          obtain ⟨v6, e_v6⟩ : ∃ z : Int32, z = x3 + (1 : Int32) := ⟨_, rfl⟩
          have h := h v6 e_v6
          refine v_iinc (v := v6) dX10_heightNumber_28 rfl (by rw [e_v6]; rfl) (by decide) rfl ?_
          refine v_ls (ls2 := [some (.int f0), some (.int f1), some (.int v5), some (.int v6)]) rfl ?_
          refine v_goto (tgt := 4) dX10_heightNumber_31 (by decide) ?_
          exact ih v5 v6 _ h
        · have h := h.2 c4
          refine v_iload_n dX10_heightNumber_23 rfl rfl ?_
          exact u_iret dX10_heightNumber_24 ⟨rfl, id⟩ h
set_option maxRecDepth 100000 in
set_option maxHeartbeats 4000000 in
theorem v_X10_heightNumber {d : Nat}  (a1 : Int32) (a2 : Int32) (τ : kT) (post : Int32 → kT → Prop) (h : T_X10_heightNumber  a1 a2 τ post) : U yX10_heightNumber cX10_heightNumber 4 (some .int) (d + 0) kE0 0 [some (.int a1), some (.int a2), none, none] [] τ (k_pi post) := by
  unfold T_X10_heightNumber at h
  refine v_iconst (v := 0) dX10_heightNumber_0 (by decide) ?_
  refine v_istore_n dX10_heightNumber_1 rfl (by decide) rfl ?_
  refine v_ls (ls2 := [some (.int a1), some (.int a2), some (.int (0 : Int32)), none]) rfl ?_
  refine v_iconst (v := 0) dX10_heightNumber_2 (by decide) ?_
  refine v_istore_n dX10_heightNumber_3 rfl (by decide) rfl ?_
  refine v_ls (ls2 := [some (.int a1), some (.int a2), some (.int (0 : Int32)), some (.int (0 : Int32))]) rfl ?_
  obtain ⟨m7, h⟩ := h
  refine l_X10_heightNumber_4  a1 a2 (fun v8 v9 τ10 h => ?_) m7 (0 : Int32) (0 : Int32) _ h
  refine v_bipush (v := -12) dX10_heightNumber_34 (by decide) ?_
  exact u_iret dX10_heightNumber_36 ⟨rfl, id⟩ h
