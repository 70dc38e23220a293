def T_X11_cut (a1 : Int32) (a2 : Int32) (τ : kT) (post : Int32 → kT → Prop) : Prop := (T_X11_isKey a1 τ (fun r1 τ2 => ((¬ r1 = 0 → (∃ j4 : Nat, ((2200 : Int32) + a1) = nI j4 ∧ j4 < 8530 ∧ (T_X11_in ((a2).toInt64) (0 : Int64) ((((q_i τ2 67 j4) - (1 : Int32))).toInt64) τ2 (fun r5 τ6 => ((r5 = 0 → (T_X11_met (2 : Int32) τ6 (fun r8 τ9 => post r8 τ9))) ∧ (¬ r5 = 0 → (∃ j10 : Nat, (((2300 : Int32) + ((18 : Int32) * a1)) + a2) = nI j10 ∧ j10 < 8530 ∧ (T_X11_well (q_i τ6 67 j10) τ6 (fun r11 τ12 => post r11 τ12))))))))) ∧ (r1 = 0 → post (-2 : Int32) τ2))))
set_option maxRecDepth 100000 in
set_option maxHeartbeats 4000000 in
theorem v_X11_cut {d : Nat}  (a1 : Int32) (a2 : Int32) (τ : kT) (post : Int32 → kT → Prop) (h : T_X11_cut  a1 a2 τ post) : U yX11_cut cX11_cut 3 (some .int) (d + 2) kE0 0 [some (.ref 66), some (.int a1), some (.int a2)] [] τ (k_pi post) := by
  unfold T_X11_cut at h
  refine v_aload_n dX11_cut_0 rfl rfl ?_
  refine v_iload_n dX11_cut_1 rfl rfl ?_
  refine u_callV [.int a1] mX11_isKey iX11_isKey lX11_125 dX11_cut_2 sh_66 rfl rfl (by decide) ⟨rfl, rfl, id⟩ rfl rfl (Nat.le_of_ble_eq_true rfl) (Nat.le_of_ble_eq_true rfl) (v_X11_isKey a1 _ _ h) ?_
  rintro _ τ2 ⟨r1, rfl, h⟩
  refine v_if_ne (tgt := 11) dX11_cut_5 (by decide) (fun c3 => ?_) (fun c3 => ?_)
  · have h := h.1 c3
    refine v_iload_n dX11_cut_11 rfl rfl ?_
    refine v_i2l dX11_cut_12 ?_
    refine v_lconst (v := 0) dX11_cut_13 (by decide) ?_
    refine v_aload_n dX11_cut_14 rfl rfl ?_
    refine u_getr fX11_7 dX11_cut_15 sh_66 rfl (by decide) (rf_66_0 _) ?_
    refine v_sipush (v := 2200) dX11_cut_18 (by decide) ?_
    refine v_iload_n dX11_cut_21 rfl rfl ?_
    refine v_iadd dX11_cut_22 ?_
    obtain ⟨j4, e_j4, l_j4, h⟩ := h
    refine u_iald dX11_cut_23 sh_67 (by decide) (by decide) e_j4 l_j4 ?_
    refine v_iconst (v := 1) dX11_cut_24 (by decide) ?_
    refine v_isub dX11_cut_25 ?_
    refine v_i2l dX11_cut_26 ?_
    refine u_callS [.long ((a2).toInt64), .long (0 : Int64), .long ((((q_i τ2 67 j4) - (1 : Int32))).toInt64)] mX11_in sX11_in lX11_67 dX11_cut_27 ⟨rfl, rfl, id⟩ rfl rfl (Nat.le_of_ble_eq_true rfl) (Nat.le_of_ble_eq_true rfl) (v_X11_in ((a2).toInt64) (0 : Int64) ((((q_i τ2 67 j4) - (1 : Int32))).toInt64) _ _ h) ?_
    rintro _ τ6 ⟨r5, rfl, h⟩
    refine v_if_eq (tgt := 55) dX11_cut_30 (by decide) (fun c7 => ?_) (fun c7 => ?_)
    · have h := h.1 c7
      refine v_aload_n dX11_cut_55 rfl rfl ?_
      refine v_iconst (v := 2) dX11_cut_56 (by decide) ?_
      refine u_callV [.int (2 : Int32)] mX11_met iX11_met lX11_80 dX11_cut_57 sh_66 rfl rfl (by decide) ⟨rfl, rfl, id⟩ rfl rfl (Nat.le_of_ble_eq_true rfl) (Nat.le_of_ble_eq_true rfl) (v_X11_met (2 : Int32) _ _ h) ?_
      rintro _ τ9 ⟨r8, rfl, h⟩
      exact u_iret dX11_cut_60 ⟨rfl, id⟩ h
    · have h := h.2 c7
      refine v_aload_n dX11_cut_33 rfl rfl ?_
      refine v_aload_n dX11_cut_34 rfl rfl ?_
      refine u_getr fX11_7 dX11_cut_35 sh_66 rfl (by decide) (rf_66_0 _) ?_
      refine v_sipush (v := 2300) dX11_cut_38 (by decide) ?_
      refine v_bipush (v := 18) dX11_cut_41 (by decide) ?_
      refine v_iload_n dX11_cut_43 rfl rfl ?_
      refine v_imul dX11_cut_44 ?_
      refine v_iadd dX11_cut_45 ?_
      refine v_iload_n dX11_cut_46 rfl rfl ?_
      refine v_iadd dX11_cut_47 ?_
      obtain ⟨j10, e_j10, l_j10, h⟩ := h
      refine u_iald dX11_cut_48 sh_67 (by decide) (by decide) e_j10 l_j10 ?_
      refine u_callV [.int (q_i τ6 67 j10)] mX11_well iX11_well lX11_74 dX11_cut_49 sh_66 rfl rfl (by decide) ⟨rfl, rfl, id⟩ rfl rfl (Nat.le_of_ble_eq_true rfl) (Nat.le_of_ble_eq_true rfl) (v_X11_well (q_i τ6 67 j10) _ _ h) ?_
      rintro _ τ12 ⟨r11, rfl, h⟩
      refine v_goto (tgt := 60) dX11_cut_52 (by decide) ?_
      exact u_iret dX11_cut_60 ⟨rfl, id⟩ h
  · have h := h.2 c3
    refine v_bipush (v := -2) dX11_cut_8 (by decide) ?_
    exact u_iret dX11_cut_10 ⟨rfl, id⟩ h
def T_X11_length (a1 : Int32) (τ : kT) (post : Int32 → kT → Prop) : Prop := (T_X11_isKey a1 τ (fun r1 τ2 => ((r1 = 0 → post (-2 : Int32) τ2) ∧ (¬ r1 = 0 → (∃ j4 : Nat, ((2200 : Int32) + a1) = nI j4 ∧ j4 < 8530 ∧ post (q_i τ2 67 j4) τ2)))))
set_option maxRecDepth 100000 in
set_option maxHeartbeats 4000000 in
theorem v_X11_length {d : Nat}  (a1 : Int32) (τ : kT) (post : Int32 → kT → Prop) (h : T_X11_length  a1 τ post) : U yX11_length cX11_length 2 (some .int) (d + 2) kE0 0 [some (.ref 66), some (.int a1)] [] τ (k_pi post) := by
  unfold T_X11_length at h
  refine v_aload_n dX11_length_0 rfl rfl ?_
  refine v_iload_n dX11_length_1 rfl rfl ?_
  refine u_callV [.int a1] mX11_isKey iX11_isKey lX11_125 dX11_length_2 sh_66 rfl rfl (by decide) ⟨rfl, rfl, id⟩ rfl rfl (Nat.le_of_ble_eq_true rfl) (Nat.le_of_ble_eq_true rfl) (v_X11_isKey a1 _ _ h) ?_
  rintro _ τ2 ⟨r1, rfl, h⟩
  refine v_if_eq (tgt := 21) dX11_length_5 (by decide) (fun c3 => ?_) (fun c3 => ?_)
  · have h := h.1 c3
    refine v_bipush (v := -2) dX11_length_21 (by decide) ?_
    exact u_iret dX11_length_23 ⟨rfl, id⟩ h
  · have h := h.2 c3
    refine v_aload_n dX11_length_8 rfl rfl ?_
    refine u_getr fX11_7 dX11_length_9 sh_66 rfl (by decide) (rf_66_0 _) ?_
    refine v_sipush (v := 2200) dX11_length_12 (by decide) ?_
    refine v_iload_n dX11_length_15 rfl rfl ?_
    refine v_iadd dX11_length_16 ?_
    obtain ⟨j4, e_j4, l_j4, h⟩ := h
    refine u_iald dX11_length_17 sh_67 (by decide) (by decide) e_j4 l_j4 ?_
    refine v_goto (tgt := 23) dX11_length_18 (by decide) ?_
    exact u_iret dX11_length_23 ⟨rfl, id⟩ h
def L_X11_tried_125  (f1 : Int32) (f2 : Int32) (f3 : Int32) (f4 : Int32) (f5 : Int32) (K : Int32 → kT → Prop) (post : Int32 → kT → Prop) : Nat → Int32 → kT → Prop
  | 0, _, _ => False
  | n + 1, x6, τ => (∃ j9 : Nat, ((100 : Int32) + f1) = nI j9 ∧ j9 < 8530 ∧ (((q_i τ 67 j9) ≤ x6 → K x6 τ) ∧ (¬ (q_i τ 67 j9) ≤ x6 → (∃ j11 : Nat, (((400 : Int32) + ((18 : Int32) * f1)) + x6) = nI j11 ∧ j11 < 8530 ∧ (∀ v12 : Int32, v12 = (q_i τ 67 j11) → (∃ j13 : Nat, ((2200 : Int32) + f2) = nI j13 ∧ j13 < 8530 ∧ ((x6 < (q_i τ 67 j13) → ((v12 = 0 → (∀ v16 : Int32, v16 = x6 + (1 : Int32) → L_X11_tried_125 f1 f2 f3 f4 f5 K post n v16 τ)) ∧ (¬ v12 = 0 → ((¬ (0 : Int32) = 0 → (∀ τ18 : kT, τ18 = q_si τ 66 7 (f3 + x6) → (((0 : Int32) = 0 → post (0 : Int32) τ18) ∧ (¬ (0 : Int32) = 0 → post (-2 : Int32) τ18)))) ∧ ((0 : Int32) = 0 → (∃ j20 : Nat, (((2300 : Int32) + ((18 : Int32) * f2)) + x6) = nI j20 ∧ j20 < 8530 ∧ ((¬ ((v12 >>> ((q_i τ 67 j20) &&& 31)) &&& (1 : Int32)) = 0 → (∀ v22 : Int32, v22 = x6 + (1 : Int32) → L_X11_tried_125 f1 f2 f3 f4 f5 K post n v22 τ)) ∧ (((v12 >>> ((q_i τ 67 j20) &&& 31)) &&& (1 : Int32)) = 0 → (∀ τ23 : kT, τ23 = q_si τ 66 7 (f3 + x6) → (((0 : Int32) = 0 → post (0 : Int32) τ23) ∧ (¬ (0 : Int32) = 0 → post (-2 : Int32) τ23))))))))))) ∧ (¬ x6 < (q_i τ 67 j13) → ((v12 = 0 → (∀ v26 : Int32, v26 = x6 + (1 : Int32) → L_X11_tried_125 f1 f2 f3 f4 f5 K post n v26 τ)) ∧ (¬ v12 = 0 → ((¬ (1 : Int32) = 0 → (∀ τ28 : kT, τ28 = q_si τ 66 7 (f3 + x6) → (((1 : Int32) = 0 → post (0 : Int32) τ28) ∧ (¬ (1 : Int32) = 0 → post (-2 : Int32) τ28)))) ∧ ((1 : Int32) = 0 → (∃ j30 : Nat, (((2300 : Int32) + ((18 : Int32) * f2)) + x6) = nI j30 ∧ j30 < 8530 ∧ ((¬ ((v12 >>> ((q_i τ 67 j30) &&& 31)) &&& (1 : Int32)) = 0 → (∀ v32 : Int32, v32 = x6 + (1 : Int32) → L_X11_tried_125 f1 f2 f3 f4 f5 K post n v32 τ)) ∧ (((v12 >>> ((q_i τ 67 j30) &&& 31)) &&& (1 : Int32)) = 0 → (∀ τ33 : kT, τ33 = q_si τ 66 7 (f3 + x6) → (((1 : Int32) = 0 → post (0 : Int32) τ33) ∧ (¬ (1 : Int32) = 0 → post (-2 : Int32) τ33))))))))))))))))))
def T_X11_tried : Nat → Int32 → Int32 → Int32 → Int32 → kT → (Int32 → kT → Prop) → Prop
  | 0, _, _, _, _, _, _ => False
  | n0 + 1, a1, a2, a3, a4, τ, post => ((¬ a1 = (-1 : Int32) → (∃ j2 : Nat, ((0 : Int32) + a1) = nI j2 ∧ j2 < 8530 ∧ (∀ v3 : Int32, v3 = (q_i τ 67 j2) → ((¬ v3 = (4 : Int32) → ((¬ v3 = (3 : Int32) → ((v3 = 0 → (T_X11_note (1 : Int32) a4 τ (fun τ8 => (∃ m35 : Nat, L_X11_tried_125  a1 a2 a3 a4 v3 (fun v36 τ37 => (∃ j38 : Nat, ((100 : Int32) + a1) = nI j38 ∧ j38 < 8530 ∧ ((0 ≤ (q_i τ37 67 j38) → post (1 : Int32) τ37) ∧ (¬ 0 ≤ (q_i τ37 67 j38) → post (-1 : Int32) τ37)))) post m35 (0 : Int32) τ8)))) ∧ (¬ v3 = 0 → (T_X11_note (2 : Int32) a4 τ (fun τ41 => (T_X11_note (1 : Int32) a4 τ41 (fun τ43 => (∃ m44 : Nat, L_X11_tried_125  a1 a2 a3 a4 v3 (fun v45 τ46 => (∃ j47 : Nat, ((100 : Int32) + a1) = nI j47 ∧ j47 < 8530 ∧ ((0 ≤ (q_i τ46 67 j47) → post (1 : Int32) τ46) ∧ (¬ 0 ≤ (q_i τ46 67 j47) → post (-1 : Int32) τ46)))) post m44 (0 : Int32) τ43)))))))) ∧ (v3 = (3 : Int32) → (T_X11_note (3 : Int32) a4 τ (fun τ50 => (∀ τ51 : kT, τ51 = q_si τ50 66 7 a3 → post (0 : Int32) τ51)))))) ∧ (v3 = (4 : Int32) → (T_X11_note (4 : Int32) a4 τ (fun τ53 => (∃ j54 : Nat, ((200 : Int32) + a1) = nI j54 ∧ j54 < 8530 ∧ ((T_X11_tried n0) (q_i τ53 67 j54) a2 a3 a4 τ53 (fun r55 τ56 => ((r55 = (1 : Int32) → (∃ j58 : Nat, ((300 : Int32) + a1) = nI j58 ∧ j58 < 8530 ∧ ((T_X11_tried n0) (q_i τ56 67 j58) a2 (a3 + (18 : Int32)) a4 τ56 (fun r59 τ60 => post r59 τ60)))) ∧ (¬ r55 = (1 : Int32) → post r55 τ56)))))))))))) ∧ (a1 = (-1 : Int32) → post (-1 : Int32) τ))
set_option maxRecDepth 100000 in
set_option maxHeartbeats 4000000 in
theorem l_X11_tried_125 {d : Nat}  (f1 : Int32) (f2 : Int32) (f3 : Int32) (f4 : Int32) (f5 : Int32) {K : Int32 → kT → Prop} {post : Int32 → kT → Prop} (hK : ∀ (x6 : Int32) (τ : kT), K x6 τ → U yX11_tried cX11_tried 9 (some .int) (d + 2) kE0 239 [some (.ref 66), some (.int f1), some (.int f2), some (.int f3), some (.int f4), some (.int f5), some (.int x6), none, none] [] τ (k_pi post)) : ∀ (n : Nat) (x6 : Int32) (τ : kT), L_X11_tried_125  f1 f2 f3 f4 f5 K post n x6 τ → U yX11_tried cX11_tried 9 (some .int) (d + 2) kE0 125 [some (.ref 66), some (.int f1), some (.int f2), some (.int f3), some (.int f4), some (.int f5), some (.int x6), none, none] [] τ (k_pi post) := by
  intro n
  induction n with
  | zero => intro x6 τ h; exact h.elim
  | succ n ih =>
    intro x6 τ h
    unfold L_X11_tried_125 at h
    refine v_iload dX11_tried_125 rfl ?_
    refine v_aload_n dX11_tried_127 rfl rfl ?_
    refine u_getr fX11_7 dX11_tried_128 sh_66 rfl (by decide) (rf_66_0 _) ?_
    refine v_bipush (v := 100) dX11_tried_131 (by decide) ?_
    refine v_iload_n dX11_tried_133 rfl rfl ?_
    refine v_iadd dX11_tried_134 ?_
    obtain ⟨j9, e_j9, l_j9, h⟩ := h
    refine u_iald dX11_tried_135 sh_67 (by decide) (by decide) e_j9 l_j9 ?_
    refine v_icmp_ge (tgt := 239) dX11_tried_136 (by decide) (fun c10 => ?_) (fun c10 => ?_)
    · have h := h.1 c10
      exact hK x6 _ h
    · have h := h.2 c10
      refine v_aload_n dX11_tried_139 rfl rfl ?_
      refine u_getr fX11_7 dX11_tried_140 sh_66 rfl (by decide) (rf_66_0 _) ?_
      refine v_sipush (v := 400) dX11_tried_143 (by decide) ?_
      refine v_bipush (v := 18) dX11_tried_146 (by decide) ?_
      refine v_iload_n dX11_tried_148 rfl rfl ?_
      refine v_imul dX11_tried_149 ?_
      refine v_iadd dX11_tried_150 ?_
      refine v_iload dX11_tried_151 rfl ?_
      refine v_iadd dX11_tried_153 ?_
      obtain ⟨j11, e_j11, l_j11, h⟩ := h
      refine u_iald dX11_tried_154 sh_67 (by decide) (by decide) e_j11 l_j11 ?_
      refine v_topi (fun v12 e_v12 => ?_)
      have h := h v12 e_v12
      refine v_istore dX11_tried_155 (by decide) rfl ?_
      refine v_ls (ls2 := [some (.ref 66), some (.int f1), some (.int f2), some (.int f3), some (.int f4), some (.int f5), some (.int x6), some (.int v12), none]) rfl ?_
      refine v_iload dX11_tried_157 rfl ?_
      refine v_aload_n dX11_tried_159 rfl rfl ?_
      refine u_getr fX11_7 dX11_tried_160 sh_66 rfl (by decide) (rf_66_0 _) ?_
      refine v_sipush (v := 2200) dX11_tried_163 (by decide) ?_
      refine v_iload_n dX11_tried_166 rfl rfl ?_
      refine v_iadd dX11_tried_167 ?_
      obtain ⟨j13, e_j13, l_j13, h⟩ := h
      refine u_iald dX11_tried_168 sh_67 (by decide) (by decide) e_j13 l_j13 ?_
      refine v_icmp_lt (tgt := 176) dX11_tried_169 (by decide) (fun c14 => ?_) (fun c14 => ?_)
      · have h := h.1 c14
        refine v_iconst (v := 0) dX11_tried_176 (by decide) ?_
        refine v_istore dX11_tried_177 (by decide) rfl ?_
        refine v_ls (ls2 := [some (.ref 66), some (.int f1), some (.int f2), some (.int f3), some (.int f4), some (.int f5), some (.int x6), some (.int v12), some (.int (0 : Int32))]) rfl ?_
        refine v_iload dX11_tried_179 rfl ?_
        refine v_if_eq (tgt := 233) dX11_tried_181 (by decide) (fun c15 => ?_) (fun c15 => ?_)
        · have h := h.1 c15
          obtain ⟨v16, e_v16⟩ : ∃ z : Int32, z = x6 + (1 : Int32) := ⟨_, rfl⟩
          have h := h v16 e_v16
          refine v_iinc (v := v16) dX11_tried_233 rfl (by rw [e_v16]; rfl) (by decide) rfl ?_
          refine v_ls (ls2 := [some (.ref 66), some (.int f1), some (.int f2), some (.int f3), some (.int f4), some (.int f5), some (.int v16), some (.int v12), some (.int (0 : Int32))]) rfl ?_
          refine v_goto (tgt := 125) dX11_tried_236 (by decide) ?_
          refine v_none 7 ?_
          refine v_ls (ls2 := [some (.ref 66), some (.int f1), some (.int f2), some (.int f3), some (.int f4), some (.int f5), some (.int v16), none, some (.int (0 : Int32))]) rfl ?_
          refine v_none 8 ?_
          refine v_ls (ls2 := [some (.ref 66), some (.int f1), some (.int f2), some (.int f3), some (.int f4), some (.int f5), some (.int v16), none, none]) rfl ?_
          exact ih v16 _ h
        · have h := h.2 c15
          refine v_iload dX11_tried_184 rfl ?_
          refine v_if_ne (tgt := 213) dX11_tried_186 (by decide) (fun c17 => ?_) (fun c17 => ?_)
          · have h := h.1 c17
            refine v_aload_n dX11_tried_213 rfl rfl ?_
            refine v_iload_n dX11_tried_214 rfl rfl ?_
            refine v_iload dX11_tried_215 rfl ?_
            refine v_iadd dX11_tried_217 ?_
            refine u_puti pX11_20 ⟨_, rfl⟩ dX11_tried_218 sh_66 rfl (by decide) (by decide) (fun τ18 e_τ18 => ?_)
            have h := h τ18 e_τ18
            refine v_iload dX11_tried_221 rfl ?_
            refine v_if_eq (tgt := 231) dX11_tried_223 (by decide) (fun c19 => ?_) (fun c19 => ?_)
            · have h := h.1 c19
              refine v_iconst (v := 0) dX11_tried_231 (by decide) ?_
              exact u_iret dX11_tried_232 ⟨rfl, id⟩ h
            · have h := h.2 c19
              refine v_bipush (v := -2) dX11_tried_226 (by decide) ?_
              refine v_goto (tgt := 232) dX11_tried_228 (by decide) ?_
              exact u_iret dX11_tried_232 ⟨rfl, id⟩ h
          · have h := h.2 c17
            refine v_iload dX11_tried_189 rfl ?_
            refine v_aload_n dX11_tried_191 rfl rfl ?_
            refine u_getr fX11_7 dX11_tried_192 sh_66 rfl (by decide) (rf_66_0 _) ?_
            refine v_sipush (v := 2300) dX11_tried_195 (by decide) ?_
            refine v_bipush (v := 18) dX11_tried_198 (by decide) ?_
            refine v_iload_n dX11_tried_200 rfl rfl ?_
            refine v_imul dX11_tried_201 ?_
            refine v_iadd dX11_tried_202 ?_
            refine v_iload dX11_tried_203 rfl ?_
            refine v_iadd dX11_tried_205 ?_
            obtain ⟨j20, e_j20, l_j20, h⟩ := h
            refine u_iald dX11_tried_206 sh_67 (by decide) (by decide) e_j20 l_j20 ?_
            refine v_ishr dX11_tried_207 ?_
            refine v_iconst (v := 1) dX11_tried_208 (by decide) ?_
            refine v_iand dX11_tried_209 ?_
            refine v_if_ne (tgt := 233) dX11_tried_210 (by decide) (fun c21 => ?_) (fun c21 => ?_)
            · have h := h.1 c21
              obtain ⟨v22, e_v22⟩ : ∃ z : Int32, z = x6 + (1 : Int32) := ⟨_, rfl⟩
              have h := h v22 e_v22
              refine v_iinc (v := v22) dX11_tried_233 rfl (by rw [e_v22]; rfl) (by decide) rfl ?_
              refine v_ls (ls2 := [some (.ref 66), some (.int f1), some (.int f2), some (.int f3), some (.int f4), some (.int f5), some (.int v22), some (.int v12), some (.int (0 : Int32))]) rfl ?_
              refine v_goto (tgt := 125) dX11_tried_236 (by decide) ?_
              refine v_none 7 ?_
              refine v_ls (ls2 := [some (.ref 66), some (.int f1), some (.int f2), some (.int f3), some (.int f4), some (.int f5), some (.int v22), none, some (.int (0 : Int32))]) rfl ?_
              refine v_none 8 ?_
              refine v_ls (ls2 := [some (.ref 66), some (.int f1), some (.int f2), some (.int f3), some (.int f4), some (.int f5), some (.int v22), none, none]) rfl ?_
              exact ih v22 _ h
            · have h := h.2 c21
              refine v_aload_n dX11_tried_213 rfl rfl ?_
              refine v_iload_n dX11_tried_214 rfl rfl ?_
              refine v_iload dX11_tried_215 rfl ?_
              refine v_iadd dX11_tried_217 ?_
              refine u_puti pX11_20 ⟨_, rfl⟩ dX11_tried_218 sh_66 rfl (by decide) (by decide) (fun τ23 e_τ23 => ?_)
              have h := h τ23 e_τ23
              refine v_iload dX11_tried_221 rfl ?_
              refine v_if_eq (tgt := 231) dX11_tried_223 (by decide) (fun c24 => ?_) (fun c24 => ?_)
              · have h := h.1 c24
                refine v_iconst (v := 0) dX11_tried_231 (by decide) ?_
                exact u_iret dX11_tried_232 ⟨rfl, id⟩ h
              · have h := h.2 c24
                refine v_bipush (v := -2) dX11_tried_226 (by decide) ?_
                refine v_goto (tgt := 232) dX11_tried_228 (by decide) ?_
                exact u_iret dX11_tried_232 ⟨rfl, id⟩ h
      · have h := h.2 c14
        refine v_iconst (v := 1) dX11_tried_172 (by decide) ?_
        refine v_goto (tgt := 177) dX11_tried_173 (by decide) ?_
        refine v_istore dX11_tried_177 (by decide) rfl ?_
        refine v_ls (ls2 := [some (.ref 66), some (.int f1), some (.int f2), some (.int f3), some (.int f4), some (.int f5), some (.int x6), some (.int v12), some (.int (1 : Int32))]) rfl ?_
        refine v_iload dX11_tried_179 rfl ?_
        refine v_if_eq (tgt := 233) dX11_tried_181 (by decide) (fun c25 => ?_) (fun c25 => ?_)
        · have h := h.1 c25
          obtain ⟨v26, e_v26⟩ : ∃ z : Int32, z = x6 + (1 : Int32) := ⟨_, rfl⟩
          have h := h v26 e_v26
          refine v_iinc (v := v26) dX11_tried_233 rfl (by rw [e_v26]; rfl) (by decide) rfl ?_
          refine v_ls (ls2 := [some (.ref 66), some (.int f1), some (.int f2), some (.int f3), some (.int f4), some (.int f5), some (.int v26), some (.int v12), some (.int (1 : Int32))]) rfl ?_
          refine v_goto (tgt := 125) dX11_tried_236 (by decide) ?_
          refine v_none 7 ?_
          refine v_ls (ls2 := [some (.ref 66), some (.int f1), some (.int f2), some (.int f3), some (.int f4), some (.int f5), some (.int v26), none, some (.int (1 : Int32))]) rfl ?_
          refine v_none 8 ?_
          refine v_ls (ls2 := [some (.ref 66), some (.int f1), some (.int f2), some (.int f3), some (.int f4), some (.int f5), some (.int v26), none, none]) rfl ?_
          exact ih v26 _ h
        · have h := h.2 c25
          refine v_iload dX11_tried_184 rfl ?_
          refine v_if_ne (tgt := 213) dX11_tried_186 (by decide) (fun c27 => ?_) (fun c27 => ?_)
          · have h := h.1 c27
            refine v_aload_n dX11_tried_213 rfl rfl ?_
            refine v_iload_n dX11_tried_214 rfl rfl ?_
            refine v_iload dX11_tried_215 rfl ?_
            refine v_iadd dX11_tried_217 ?_
            refine u_puti pX11_20 ⟨_, rfl⟩ dX11_tried_218 sh_66 rfl (by decide) (by decide) (fun τ28 e_τ28 => ?_)
            have h := h τ28 e_τ28
            refine v_iload dX11_tried_221 rfl ?_
            refine v_if_eq (tgt := 231) dX11_tried_223 (by decide) (fun c29 => ?_) (fun c29 => ?_)
            · have h := h.1 c29
              refine v_iconst (v := 0) dX11_tried_231 (by decide) ?_
              exact u_iret dX11_tried_232 ⟨rfl, id⟩ h
            · have h := h.2 c29
              refine v_bipush (v := -2) dX11_tried_226 (by decide) ?_
              refine v_goto (tgt := 232) dX11_tried_228 (by decide) ?_
              exact u_iret dX11_tried_232 ⟨rfl, id⟩ h
          · have h := h.2 c27
            refine v_iload dX11_tried_189 rfl ?_
            refine v_aload_n dX11_tried_191 rfl rfl ?_
            refine u_getr fX11_7 dX11_tried_192 sh_66 rfl (by decide) (rf_66_0 _) ?_
            refine v_sipush (v := 2300) dX11_tried_195 (by decide) ?_
            refine v_bipush (v := 18) dX11_tried_198 (by decide) ?_
            refine v_iload_n dX11_tried_200 rfl rfl ?_
            refine v_imul dX11_tried_201 ?_
            refine v_iadd dX11_tried_202 ?_
            refine v_iload dX11_tried_203 rfl ?_
            refine v_iadd dX11_tried_205 ?_
            obtain ⟨j30, e_j30, l_j30, h⟩ := h
            refine u_iald dX11_tried_206 sh_67 (by decide) (by decide) e_j30 l_j30 ?_
            refine v_ishr dX11_tried_207 ?_
            refine v_iconst (v := 1) dX11_tried_208 (by decide) ?_
            refine v_iand dX11_tried_209 ?_
            refine v_if_ne (tgt := 233) dX11_tried_210 (by decide) (fun c31 => ?_) (fun c31 => ?_)
            · have h := h.1 c31
              obtain ⟨v32, e_v32⟩ : ∃ z : Int32, z = x6 + (1 : Int32) := ⟨_, rfl⟩
              have h := h v32 e_v32
              refine v_iinc (v := v32) dX11_tried_233 rfl (by rw [e_v32]; rfl) (by decide) rfl ?_
              refine v_ls (ls2 := [some (.ref 66), some (.int f1), some (.int f2), some (.int f3), some (.int f4), some (.int f5), some (.int v32), some (.int v12), some (.int (1 : Int32))]) rfl ?_
              refine v_goto (tgt := 125) dX11_tried_236 (by decide) ?_
              refine v_none 7 ?_
              refine v_ls (ls2 := [some (.ref 66), some (.int f1), some (.int f2), some (.int f3), some (.int f4), some (.int f5), some (.int v32), none, some (.int (1 : Int32))]) rfl ?_
              refine v_none 8 ?_
              refine v_ls (ls2 := [some (.ref 66), some (.int f1), some (.int f2), some (.int f3), some (.int f4), some (.int f5), some (.int v32), none, none]) rfl ?_
              exact ih v32 _ h
            · have h := h.2 c31
              refine v_aload_n dX11_tried_213 rfl rfl ?_
              refine v_iload_n dX11_tried_214 rfl rfl ?_
              refine v_iload dX11_tried_215 rfl ?_
              refine v_iadd dX11_tried_217 ?_
              refine u_puti pX11_20 ⟨_, rfl⟩ dX11_tried_218 sh_66 rfl (by decide) (by decide) (fun τ33 e_τ33 => ?_)
              have h := h τ33 e_τ33
              refine v_iload dX11_tried_221 rfl ?_
              refine v_if_eq (tgt := 231) dX11_tried_223 (by decide) (fun c34 => ?_) (fun c34 => ?_)
              · have h := h.1 c34
                refine v_iconst (v := 0) dX11_tried_231 (by decide) ?_
                exact u_iret dX11_tried_232 ⟨rfl, id⟩ h
              · have h := h.2 c34
                refine v_bipush (v := -2) dX11_tried_226 (by decide) ?_
                refine v_goto (tgt := 232) dX11_tried_228 (by decide) ?_
                exact u_iret dX11_tried_232 ⟨rfl, id⟩ h
set_option maxRecDepth 100000 in
set_option maxHeartbeats 4000000 in
theorem v_X11_tried {d : Nat} : ∀ (n : Nat) (a1 : Int32) (a2 : Int32) (a3 : Int32) (a4 : Int32) (τ : kT) (post : Int32 → kT → Prop), T_X11_tried n a1 a2 a3 a4 τ post → U yX11_tried cX11_tried 9 (some .int) (d + n + 1) kE0 0 [some (.ref 66), some (.int a1), some (.int a2), some (.int a3), some (.int a4), none, none, none, none] [] τ (k_pi post) := by
  intro n
  induction n with
  | zero => intro a1 a2 a3 a4 τ post h; exact h.elim
  | succ n0 ihR =>
    intro a1 a2 a3 a4 τ post h
    unfold T_X11_tried at h
    rw [show d + (n0 + 1) + 1 = d + n0 + 2 by omega]
    refine v_iload_n dX11_tried_0 rfl rfl ?_
    refine v_iconst (v := -1) dX11_tried_1 (by decide) ?_
    refine v_icmp_ne (tgt := 7) dX11_tried_2 (by decide) (fun c1 => ?_) (fun c1 => ?_)
    · have h := h.1 c1
      refine v_aload_n dX11_tried_7 rfl rfl ?_
      refine u_getr fX11_7 dX11_tried_8 sh_66 rfl (by decide) (rf_66_0 _) ?_
      refine v_iconst (v := 0) dX11_tried_11 (by decide) ?_
      refine v_iload_n dX11_tried_12 rfl rfl ?_
      refine v_iadd dX11_tried_13 ?_
      obtain ⟨j2, e_j2, l_j2, h⟩ := h
      refine u_iald dX11_tried_14 sh_67 (by decide) (by decide) e_j2 l_j2 ?_
      refine v_topi (fun v3 e_v3 => ?_)
      have h := h v3 e_v3
      refine v_istore dX11_tried_15 (by decide) rfl ?_
      refine v_ls (ls2 := [some (.ref 66), some (.int a1), some (.int a2), some (.int a3), some (.int a4), some (.int v3), none, none, none]) rfl ?_
      refine v_iload dX11_tried_17 rfl ?_
      refine v_iconst (v := 4) dX11_tried_19 (by decide) ?_
      refine v_icmp_ne (tgt := 83) dX11_tried_20 (by decide) (fun c4 => ?_) (fun c4 => ?_)
      · have h := h.1 c4
        refine v_iload dX11_tried_83 rfl ?_
        refine v_iconst (v := 3) dX11_tried_85 (by decide) ?_
        refine v_icmp_ne (tgt := 103) dX11_tried_86 (by decide) (fun c5 => ?_) (fun c5 => ?_)
        · have h := h.1 c5
          refine v_iload dX11_tried_103 rfl ?_
          refine v_if_eq (tgt := 115) dX11_tried_105 (by decide) (fun c6 => ?_) (fun c6 => ?_)
          · have h := h.1 c6
            refine v_aload_n dX11_tried_115 rfl rfl ?_
            refine v_iconst (v := 1) dX11_tried_116 (by decide) ?_
            refine v_iload dX11_tried_117 rfl ?_
            refine u_callV [.int (1 : Int32), .int a4] mX11_note iX11_note lX11_106 dX11_tried_119 sh_66 rfl rfl (by decide) ⟨rfl, rfl, id⟩ rfl rfl (Nat.le_of_ble_eq_true rfl) (Nat.le_of_ble_eq_true rfl) (v_X11_note (1 : Int32) a4 _ _ h) ?_
            rintro _ τ8 ⟨rfl, h⟩
            refine v_iconst (v := 0) dX11_tried_122 (by decide) ?_
            refine v_istore dX11_tried_123 (by decide) rfl ?_
            refine v_ls (ls2 := [some (.ref 66), some (.int a1), some (.int a2), some (.int a3), some (.int a4), some (.int v3), some (.int (0 : Int32)), none, none]) rfl ?_
            obtain ⟨m35, h⟩ := h
            refine l_X11_tried_125  a1 a2 a3 a4 v3 (fun v36 τ37 h => ?_) m35 (0 : Int32) _ h
            refine v_aload_n dX11_tried_239 rfl rfl ?_
            refine u_getr fX11_7 dX11_tried_240 sh_66 rfl (by decide) (rf_66_0 _) ?_
            refine v_bipush (v := 100) dX11_tried_243 (by decide) ?_
            refine v_iload_n dX11_tried_245 rfl rfl ?_
            refine v_iadd dX11_tried_246 ?_
            obtain ⟨j38, e_j38, l_j38, h⟩ := h
            refine u_iald dX11_tried_247 sh_67 (by decide) (by decide) e_j38 l_j38 ?_
            refine v_if_ge (tgt := 255) dX11_tried_248 (by decide) (fun c39 => ?_) (fun c39 => ?_)
            · have h := h.1 c39
              refine v_iconst (v := 1) dX11_tried_255 (by decide) ?_
              exact u_iret dX11_tried_256 ⟨rfl, id⟩ h
            · have h := h.2 c39
              refine v_iconst (v := -1) dX11_tried_251 (by decide) ?_
              refine v_goto (tgt := 256) dX11_tried_252 (by decide) ?_
              exact u_iret dX11_tried_256 ⟨rfl, id⟩ h
          · have h := h.2 c6
            refine v_aload_n dX11_tried_108 rfl rfl ?_
            refine v_iconst (v := 2) dX11_tried_109 (by decide) ?_
            refine v_iload dX11_tried_110 rfl ?_
            refine u_callV [.int (2 : Int32), .int a4] mX11_note iX11_note lX11_106 dX11_tried_112 sh_66 rfl rfl (by decide) ⟨rfl, rfl, id⟩ rfl rfl (Nat.le_of_ble_eq_true rfl) (Nat.le_of_ble_eq_true rfl) (v_X11_note (2 : Int32) a4 _ _ h) ?_
            rintro _ τ41 ⟨rfl, h⟩
            refine v_aload_n dX11_tried_115 rfl rfl ?_
            refine v_iconst (v := 1) dX11_tried_116 (by decide) ?_
            refine v_iload dX11_tried_117 rfl ?_
            refine u_callV [.int (1 : Int32), .int a4] mX11_note iX11_note lX11_106 dX11_tried_119 sh_66 rfl rfl (by decide) ⟨rfl, rfl, id⟩ rfl rfl (Nat.le_of_ble_eq_true rfl) (Nat.le_of_ble_eq_true rfl) (v_X11_note (1 : Int32) a4 _ _ h) ?_
            rintro _ τ43 ⟨rfl, h⟩
            refine v_iconst (v := 0) dX11_tried_122 (by decide) ?_
            refine v_istore dX11_tried_123 (by decide) rfl ?_
            refine v_ls (ls2 := [some (.ref 66), some (.int a1), some (.int a2), some (.int a3), some (.int a4), some (.int v3), some (.int (0 : Int32)), none, none]) rfl ?_
            obtain ⟨m44, h⟩ := h
            refine l_X11_tried_125  a1 a2 a3 a4 v3 (fun v45 τ46 h => ?_) m44 (0 : Int32) _ h
            refine v_aload_n dX11_tried_239 rfl rfl ?_
            refine u_getr fX11_7 dX11_tried_240 sh_66 rfl (by decide) (rf_66_0 _) ?_
            refine v_bipush (v := 100) dX11_tried_243 (by decide) ?_
            refine v_iload_n dX11_tried_245 rfl rfl ?_
            refine v_iadd dX11_tried_246 ?_
            obtain ⟨j47, e_j47, l_j47, h⟩ := h
            refine u_iald dX11_tried_247 sh_67 (by decide) (by decide) e_j47 l_j47 ?_
            refine v_if_ge (tgt := 255) dX11_tried_248 (by decide) (fun c48 => ?_) (fun c48 => ?_)
            · have h := h.1 c48
              refine v_iconst (v := 1) dX11_tried_255 (by decide) ?_
              exact u_iret dX11_tried_256 ⟨rfl, id⟩ h
            · have h := h.2 c48
              refine v_iconst (v := -1) dX11_tried_251 (by decide) ?_
              refine v_goto (tgt := 256) dX11_tried_252 (by decide) ?_
              exact u_iret dX11_tried_256 ⟨rfl, id⟩ h
        · have h := h.2 c5
          refine v_aload_n dX11_tried_89 rfl rfl ?_
          refine v_iconst (v := 3) dX11_tried_90 (by decide) ?_
          refine v_iload dX11_tried_91 rfl ?_
          refine u_callV [.int (3 : Int32), .int a4] mX11_note iX11_note lX11_106 dX11_tried_93 sh_66 rfl rfl (by decide) ⟨rfl, rfl, id⟩ rfl rfl (Nat.le_of_ble_eq_true rfl) (Nat.le_of_ble_eq_true rfl) (v_X11_note (3 : Int32) a4 _ _ h) ?_
          rintro _ τ50 ⟨rfl, h⟩
          refine v_aload_n dX11_tried_96 rfl rfl ?_
          refine v_iload_n dX11_tried_97 rfl rfl ?_
          refine u_puti pX11_20 ⟨_, rfl⟩ dX11_tried_98 sh_66 rfl (by decide) (by decide) (fun τ51 e_τ51 => ?_)
          have h := h τ51 e_τ51
          refine v_iconst (v := 0) dX11_tried_101 (by decide) ?_
          exact u_iret dX11_tried_102 ⟨rfl, id⟩ h
      · have h := h.2 c4
        refine v_aload_n dX11_tried_23 rfl rfl ?_
        refine v_iconst (v := 4) dX11_tried_24 (by decide) ?_
        refine v_iload dX11_tried_25 rfl ?_
        refine u_callV [.int (4 : Int32), .int a4] mX11_note iX11_note lX11_106 dX11_tried_27 sh_66 rfl rfl (by decide) ⟨rfl, rfl, id⟩ rfl rfl (Nat.le_of_ble_eq_true rfl) (Nat.le_of_ble_eq_true rfl) (v_X11_note (4 : Int32) a4 _ _ h) ?_
        rintro _ τ53 ⟨rfl, h⟩
        refine v_aload_n dX11_tried_30 rfl rfl ?_
        refine v_aload_n dX11_tried_31 rfl rfl ?_
        refine u_getr fX11_7 dX11_tried_32 sh_66 rfl (by decide) (rf_66_0 _) ?_
        refine v_sipush (v := 200) dX11_tried_35 (by decide) ?_
        refine v_iload_n dX11_tried_38 rfl rfl ?_
        refine v_iadd dX11_tried_39 ?_
        obtain ⟨j54, e_j54, l_j54, h⟩ := h
        refine u_iald dX11_tried_40 sh_67 (by decide) (by decide) e_j54 l_j54 ?_
        refine v_iload_n dX11_tried_41 rfl rfl ?_
        refine v_iload_n dX11_tried_42 rfl rfl ?_
        refine v_iload dX11_tried_43 rfl ?_
        refine u_callV [.int (q_i τ53 67 j54), .int a2, .int a3, .int a4] mX11_tried iX11_tried lX11_128 dX11_tried_45 sh_66 rfl rfl (by decide) ⟨rfl, rfl, id⟩ rfl rfl (Nat.le_of_ble_eq_true rfl) (Nat.le_of_ble_eq_true rfl) (ihR (q_i τ53 67 j54) a2 a3 a4 _ _ h) ?_
        rintro _ τ56 ⟨r55, rfl, h⟩
        refine v_istore dX11_tried_48 (by decide) rfl ?_
        refine v_ls (ls2 := [some (.ref 66), some (.int a1), some (.int a2), some (.int a3), some (.int a4), some (.int v3), some (.int r55), none, none]) rfl ?_
        refine v_iload dX11_tried_50 rfl ?_
        refine v_iconst (v := 1) dX11_tried_52 (by decide) ?_
        refine v_icmp_eq (tgt := 61) dX11_tried_53 (by decide) (fun c57 => ?_) (fun c57 => ?_)
        · have h := h.1 c57
          refine v_aload_n dX11_tried_61 rfl rfl ?_
          refine v_aload_n dX11_tried_62 rfl rfl ?_
          refine u_getr fX11_7 dX11_tried_63 sh_66 rfl (by decide) (rf_66_0 _) ?_
          refine v_sipush (v := 300) dX11_tried_66 (by decide) ?_
          refine v_iload_n dX11_tried_69 rfl rfl ?_
          refine v_iadd dX11_tried_70 ?_
          obtain ⟨j58, e_j58, l_j58, h⟩ := h
          refine u_iald dX11_tried_71 sh_67 (by decide) (by decide) e_j58 l_j58 ?_
          refine v_iload_n dX11_tried_72 rfl rfl ?_
          refine v_iload_n dX11_tried_73 rfl rfl ?_
          refine v_bipush (v := 18) dX11_tried_74 (by decide) ?_
          refine v_iadd dX11_tried_76 ?_
          refine v_iload dX11_tried_77 rfl ?_
          refine u_callV [.int (q_i τ56 67 j58), .int a2, .int (a3 + (18 : Int32)), .int a4] mX11_tried iX11_tried lX11_128 dX11_tried_79 sh_66 rfl rfl (by decide) ⟨rfl, rfl, id⟩ rfl rfl (Nat.le_of_ble_eq_true rfl) (Nat.le_of_ble_eq_true rfl) (ihR (q_i τ56 67 j58) a2 (a3 + (18 : Int32)) a4 _ _ h) ?_
          rintro _ τ60 ⟨r59, rfl, h⟩
          exact u_iret dX11_tried_82 ⟨rfl, id⟩ h
        · have h := h.2 c57
          refine v_iload dX11_tried_56 rfl ?_
          refine v_goto (tgt := 82) dX11_tried_58 (by decide) ?_
          exact u_iret dX11_tried_82 ⟨rfl, id⟩ h
    · have h := h.2 c1
      refine v_iconst (v := -1) dX11_tried_5 (by decide) ?_
      exact u_iret dX11_tried_6 ⟨rfl, id⟩ h
theorem v_X11_tried_N {d : Nat} (a1 : Int32) (a2 : Int32) (a3 : Int32) (a4 : Int32) (τ : kT) (post : Int32 → kT → Prop) (h : T_X11_tried 2 a1 a2 a3 a4 τ post) : U yX11_tried cX11_tried 9 (some .int) (d + 3) kE0 0 [some (.ref 66), some (.int a1), some (.int a2), some (.int a3), some (.int a4), none, none, none, none] [] τ (k_pi post) := by
  have h9 := v_X11_tried (d := d) 2 a1 a2 a3 a4 τ post h
  rw [show d + 2 + 1 = d + 3 by omega] at h9
  exact h9
def T_X11_lacks (a1 : Int32) (τ : kT) (post : Int32 → kT → Prop) : Prop := ((¬ a1 = (-1 : Int32) → (T_X11_met (2 : Int32) τ (fun r2 τ3 => post r2 τ3))) ∧ (a1 = (-1 : Int32) → (T_X11_met (1 : Int32) τ (fun r4 τ5 => post r4 τ5))))
set_option maxRecDepth 100000 in
set_option maxHeartbeats 4000000 in
theorem v_X11_lacks {d : Nat}  (a1 : Int32) (τ : kT) (post : Int32 → kT → Prop) (h : T_X11_lacks  a1 τ post) : U yX11_lacks cX11_lacks 2 (some .int) (d + 1) kE0 0 [some (.ref 66), some (.int a1)] [] τ (k_pi post) := by
  unfold T_X11_lacks at h
  refine v_iload_n dX11_lacks_0 rfl rfl ?_
  refine v_iconst (v := -1) dX11_lacks_1 (by decide) ?_
  refine v_icmp_ne (tgt := 13) dX11_lacks_2 (by decide) (fun c1 => ?_) (fun c1 => ?_)
  · have h := h.1 c1
    refine v_aload_n dX11_lacks_13 rfl rfl ?_
    refine v_iconst (v := 2) dX11_lacks_14 (by decide) ?_
    refine u_callV [.int (2 : Int32)] mX11_met iX11_met lX11_80 dX11_lacks_15 sh_66 rfl rfl (by decide) ⟨rfl, rfl, id⟩ rfl rfl (Nat.le_of_ble_eq_true rfl) (Nat.le_of_ble_eq_true rfl) (v_X11_met (2 : Int32) _ _ h) ?_
    rintro _ τ3 ⟨r2, rfl, h⟩
    exact u_iret dX11_lacks_18 ⟨rfl, id⟩ h
  · have h := h.2 c1
    refine v_aload_n dX11_lacks_5 rfl rfl ?_
    refine v_iconst (v := 1) dX11_lacks_6 (by decide) ?_
    refine u_callV [.int (1 : Int32)] mX11_met iX11_met lX11_80 dX11_lacks_7 sh_66 rfl rfl (by decide) ⟨rfl, rfl, id⟩ rfl rfl (Nat.le_of_ble_eq_true rfl) (Nat.le_of_ble_eq_true rfl) (v_X11_met (1 : Int32) _ _ h) ?_
    rintro _ τ5 ⟨r4, rfl, h⟩
    refine v_goto (tgt := 18) dX11_lacks_10 (by decide) ?_
    exact u_iret dX11_lacks_18 ⟨rfl, id⟩ h
def T_X11_turnOne (a1 : Int32) (a2 : Int32) (τ : kT) (post : Int32 → kT → Prop) : Prop := (∀ τ1 : kT, τ1 = q_si τ 66 9 (0 : Int32) → (∀ τ2 : kT, τ2 = q_si τ1 66 7 (-1 : Int32) → (T_X11_tried 2 a2 a1 (0 : Int32) (1 : Int32) τ2 (fun r3 τ4 => (∀ τ5 : kT, τ5 = q_si τ4 66 6 (q_i τ4 66 7) → ((0 ≤ r3 → (T_X11_well r3 τ5 (fun r7 τ8 => post r7 τ8))) ∧ (¬ 0 ≤ r3 → (T_X11_lacks r3 τ5 (fun r9 τ10 => post r9 τ10)))))))))
set_option maxRecDepth 100000 in
set_option maxHeartbeats 4000000 in
theorem v_X11_turnOne {d : Nat}  (a1 : Int32) (a2 : Int32) (τ : kT) (post : Int32 → kT → Prop) (h : T_X11_turnOne  a1 a2 τ post) : U yX11_turnOne cX11_turnOne 4 (some .int) (d + 4) kE0 0 [some (.ref 66), some (.int a1), some (.int a2), none] [] τ (k_pi post) := by
  unfold T_X11_turnOne at h
  refine v_aload_n dX11_turnOne_0 rfl rfl ?_
  refine v_iconst (v := 0) dX11_turnOne_1 (by decide) ?_
  refine u_puti pX11_103 ⟨_, rfl⟩ dX11_turnOne_2 sh_66 rfl (by decide) (by decide) (fun τ1 e_τ1 => ?_)
  have h := h τ1 e_τ1
  refine v_aload_n dX11_turnOne_5 rfl rfl ?_
  refine v_iconst (v := -1) dX11_turnOne_6 (by decide) ?_
  refine u_puti pX11_20 ⟨_, rfl⟩ dX11_turnOne_7 sh_66 rfl (by decide) (by decide) (fun τ2 e_τ2 => ?_)
  have h := h τ2 e_τ2
  refine v_aload_n dX11_turnOne_10 rfl rfl ?_
  refine v_iload_n dX11_turnOne_11 rfl rfl ?_
  refine v_iload_n dX11_turnOne_12 rfl rfl ?_
  refine v_iconst (v := 0) dX11_turnOne_13 (by decide) ?_
  refine v_iconst (v := 1) dX11_turnOne_14 (by decide) ?_
  refine u_callV [.int a2, .int a1, .int (0 : Int32), .int (1 : Int32)] mX11_tried iX11_tried lX11_128 dX11_turnOne_15 sh_66 rfl rfl (by decide) ⟨rfl, rfl, id⟩ rfl rfl (Nat.le_of_ble_eq_true rfl) (Nat.le_of_ble_eq_true rfl) (v_X11_tried_N a2 a1 (0 : Int32) (1 : Int32) _ _ h) ?_
  rintro _ τ4 ⟨r3, rfl, h⟩
  refine v_istore_n dX11_turnOne_18 rfl (by decide) rfl ?_
  refine v_ls (ls2 := [some (.ref 66), some (.int a1), some (.int a2), some (.int r3)]) rfl ?_
  refine v_aload_n dX11_turnOne_19 rfl rfl ?_
  refine v_aload_n dX11_turnOne_20 rfl rfl ?_
  refine u_geti fX11_20 dX11_turnOne_21 sh_66 rfl (by decide) ?_
  refine u_puti pX11_16 ⟨_, rfl⟩ dX11_turnOne_24 sh_66 rfl (by decide) (by decide) (fun τ5 e_τ5 => ?_)
  have h := h τ5 e_τ5
  refine v_iload_n dX11_turnOne_27 rfl rfl ?_
  refine v_if_ge (tgt := 39) dX11_turnOne_28 (by decide) (fun c6 => ?_) (fun c6 => ?_)
  · have h := h.1 c6
    refine v_aload_n dX11_turnOne_39 rfl rfl ?_
    refine v_iload_n dX11_turnOne_40 rfl rfl ?_
    refine u_callV [.int r3] mX11_well iX11_well lX11_74 dX11_turnOne_41 sh_66 rfl rfl (by decide) ⟨rfl, rfl, id⟩ rfl rfl (Nat.le_of_ble_eq_true rfl) (Nat.le_of_ble_eq_true rfl) (v_X11_well r3 _ _ h) ?_
    rintro _ τ8 ⟨r7, rfl, h⟩
    exact u_iret dX11_turnOne_44 ⟨rfl, id⟩ h
  · have h := h.2 c6
    refine v_aload_n dX11_turnOne_31 rfl rfl ?_
    refine v_iload_n dX11_turnOne_32 rfl rfl ?_
    refine u_callV [.int r3] mX11_lacks iX11_lacks lX11_132 dX11_turnOne_33 sh_66 rfl rfl (by decide) ⟨rfl, rfl, id⟩ rfl rfl (Nat.le_of_ble_eq_true rfl) (Nat.le_of_ble_eq_true rfl) (v_X11_lacks r3 _ _ h) ?_
    rintro _ τ10 ⟨r9, rfl, h⟩
    refine v_goto (tgt := 44) dX11_turnOne_36 (by decide) ?_
    exact u_iret dX11_turnOne_44 ⟨rfl, id⟩ h
def T_X11_turn (a1 : Int32) (a2 : Int32) (τ : kT) (post : Int32 → kT → Prop) : Prop := (T_X11_isKey a1 τ (fun r1 τ2 => ((r1 = 0 → post (-2 : Int32) τ2) ∧ (¬ r1 = 0 → (T_X11_isCylinder a2 τ2 (fun r4 τ5 => ((r4 = 0 → post (-2 : Int32) τ5) ∧ (¬ r4 = 0 → (T_X11_turnOne a1 a2 τ5 (fun r7 τ8 => post r7 τ8))))))))))
set_option maxRecDepth 100000 in
set_option maxHeartbeats 4000000 in
theorem v_X11_turn {d : Nat}  (a1 : Int32) (a2 : Int32) (τ : kT) (post : Int32 → kT → Prop) (h : T_X11_turn  a1 a2 τ post) : U yX11_turn cX11_turn 3 (some .int) (d + 5) kE0 0 [some (.ref 66), some (.int a1), some (.int a2)] [] τ (k_pi post) := by
  unfold T_X11_turn at h
  refine v_aload_n dX11_turn_0 rfl rfl ?_
  refine v_iload_n dX11_turn_1 rfl rfl ?_
  refine u_callV [.int a1] mX11_isKey iX11_isKey lX11_125 dX11_turn_2 sh_66 rfl rfl (by decide) ⟨rfl, rfl, id⟩ rfl rfl (Nat.le_of_ble_eq_true rfl) (Nat.le_of_ble_eq_true rfl) (v_X11_isKey a1 _ _ h) ?_
  rintro _ τ2 ⟨r1, rfl, h⟩
  refine v_if_eq (tgt := 25) dX11_turn_5 (by decide) (fun c3 => ?_) (fun c3 => ?_)
  · have h := h.1 c3
    refine v_bipush (v := -2) dX11_turn_25 (by decide) ?_
    exact u_iret dX11_turn_27 ⟨rfl, id⟩ h
  · have h := h.2 c3
    refine v_aload_n dX11_turn_8 rfl rfl ?_
    refine v_iload_n dX11_turn_9 rfl rfl ?_
    refine u_callV [.int a2] mX11_isCylinder iX11_isCylinder lX11_87 dX11_turn_10 sh_66 rfl rfl (by decide) ⟨rfl, rfl, id⟩ rfl rfl (Nat.le_of_ble_eq_true rfl) (Nat.le_of_ble_eq_true rfl) (v_X11_isCylinder a2 _ _ h) ?_
    rintro _ τ5 ⟨r4, rfl, h⟩
    refine v_if_eq (tgt := 25) dX11_turn_13 (by decide) (fun c6 => ?_) (fun c6 => ?_)
    · have h := h.1 c6
      refine v_bipush (v := -2) dX11_turn_25 (by decide) ?_
      exact u_iret dX11_turn_27 ⟨rfl, id⟩ h
    · have h := h.2 c6
      refine v_aload_n dX11_turn_16 rfl rfl ?_
      refine v_iload_n dX11_turn_17 rfl rfl ?_
      refine v_iload_n dX11_turn_18 rfl rfl ?_
      refine u_callV [.int a1, .int a2] mX11_turnOne iX11_turnOne lX11_135 dX11_turn_19 sh_66 rfl rfl (by decide) ⟨rfl, rfl, id⟩ rfl rfl (Nat.le_of_ble_eq_true rfl) (Nat.le_of_ble_eq_true rfl) (v_X11_turnOne a1 a2 _ _ h) ?_
      rintro _ τ8 ⟨r7, rfl, h⟩
      refine v_goto (tgt := 27) dX11_turn_22 (by decide) ?_
      exact u_iret dX11_turn_27 ⟨rfl, id⟩ h
def T_X11_isDoor (a1 : Int32) (τ : kT) (post : Int32 → kT → Prop) : Prop := (T_X11_in ((a1).toInt64) (0 : Int64) ((((q_i τ 67 8525) - (1 : Int32))).toInt64) τ (fun r1 τ2 => ((r1 = 0 ∨ r1 = 1) ∧ post r1 τ2)))
set_option maxRecDepth 100000 in
set_option maxHeartbeats 4000000 in
theorem v_X11_isDoor {d : Nat}  (a1 : Int32) (τ : kT) (post : Int32 → kT → Prop) (h : T_X11_isDoor  a1 τ post) : U yX11_isDoor cX11_isDoor 2 (some .boolean) (d + 1) kE0 0 [some (.ref 66), some (.int a1)] [] τ (k_pi post) := by
  unfold T_X11_isDoor at h
  refine v_iload_n dX11_isDoor_0 rfl rfl ?_
  refine v_i2l dX11_isDoor_1 ?_
  refine v_lconst (v := 0) dX11_isDoor_2 (by decide) ?_
  refine v_aload_n dX11_isDoor_3 rfl rfl ?_
  refine u_getr fX11_7 dX11_isDoor_4 sh_66 rfl (by decide) (rf_66_0 _) ?_
  refine v_sipush (v := 8525) dX11_isDoor_7 (by decide) ?_
  refine u_iald dX11_isDoor_10 sh_67 (by decide) (by decide) rfl (by decide) ?_
  refine v_iconst (v := 1) dX11_isDoor_11 (by decide) ?_
  refine v_isub dX11_isDoor_12 ?_
  refine v_i2l dX11_isDoor_13 ?_
  refine u_callS [.long ((a1).toInt64), .long (0 : Int64), .long ((((q_i τ 67 8525) - (1 : Int32))).toInt64)] mX11_in sX11_in lX11_67 dX11_isDoor_14 ⟨rfl, rfl, id⟩ rfl rfl (Nat.le_of_ble_eq_true rfl) (Nat.le_of_ble_eq_true rfl) (v_X11_in ((a1).toInt64) (0 : Int64) ((((q_i τ 67 8525) - (1 : Int32))).toInt64) _ _ h) ?_
  rintro _ τ2 ⟨r1, rfl, h⟩
  exact u_zret dX11_isDoor_17 (k_nz h.1) ⟨rfl, id⟩ h.2
def T_X11_opens (a1 : Int32) (a2 : Int32) (τ : kT) (post : Int32 → kT → Prop) : Prop := (T_X11_isKey a1 τ (fun r1 τ2 => ((r1 = 0 → post (-2 : Int32) τ2) ∧ (¬ r1 = 0 → (T_X11_isDoor a2 τ2 (fun r4 τ5 => ((r4 = 0 → post (-2 : Int32) τ5) ∧ (¬ r4 = 0 → (∃ j7 : Nat, ((4464 : Int32) + a2) = nI j7 ∧ j7 < 8530 ∧ (T_X11_turnOne a1 (q_i τ5 67 j7) τ5 (fun r8 τ9 => post r8 τ9)))))))))))
set_option maxRecDepth 100000 in
set_option maxHeartbeats 4000000 in
theorem v_X11_opens {d : Nat}  (a1 : Int32) (a2 : Int32) (τ : kT) (post : Int32 → kT → Prop) (h : T_X11_opens  a1 a2 τ post) : U yX11_opens cX11_opens 3 (some .int) (d + 5) kE0 0 [some (.ref 66), some (.int a1), some (.int a2)] [] τ (k_pi post) := by
  unfold T_X11_opens at h
  refine v_aload_n dX11_opens_0 rfl rfl ?_
  refine v_iload_n dX11_opens_1 rfl rfl ?_
  refine u_callV [.int a1] mX11_isKey iX11_isKey lX11_125 dX11_opens_2 sh_66 rfl rfl (by decide) ⟨rfl, rfl, id⟩ rfl rfl (Nat.le_of_ble_eq_true rfl) (Nat.le_of_ble_eq_true rfl) (v_X11_isKey a1 _ _ h) ?_
  rintro _ τ2 ⟨r1, rfl, h⟩
  refine v_if_eq (tgt := 34) dX11_opens_5 (by decide) (fun c3 => ?_) (fun c3 => ?_)
  · have h := h.1 c3
    refine v_bipush (v := -2) dX11_opens_34 (by decide) ?_
    exact u_iret dX11_opens_36 ⟨rfl, id⟩ h
  · have h := h.2 c3
    refine v_aload_n dX11_opens_8 rfl rfl ?_
    refine v_iload_n dX11_opens_9 rfl rfl ?_
    refine u_callV [.int a2] mX11_isDoor iX11_isDoor lX11_138 dX11_opens_10 sh_66 rfl rfl (by decide) ⟨rfl, rfl, id⟩ rfl rfl (Nat.le_of_ble_eq_true rfl) (Nat.le_of_ble_eq_true rfl) (v_X11_isDoor a2 _ _ h) ?_
    rintro _ τ5 ⟨r4, rfl, h⟩
    refine v_if_eq (tgt := 34) dX11_opens_13 (by decide) (fun c6 => ?_) (fun c6 => ?_)
    · have h := h.1 c6
      refine v_bipush (v := -2) dX11_opens_34 (by decide) ?_
      exact u_iret dX11_opens_36 ⟨rfl, id⟩ h
    · have h := h.2 c6
      refine v_aload_n dX11_opens_16 rfl rfl ?_
      refine v_iload_n dX11_opens_17 rfl rfl ?_
      refine v_aload_n dX11_opens_18 rfl rfl ?_
      refine u_getr fX11_7 dX11_opens_19 sh_66 rfl (by decide) (rf_66_0 _) ?_
      refine v_sipush (v := 4464) dX11_opens_22 (by decide) ?_
      refine v_iload_n dX11_opens_25 rfl rfl ?_
      refine v_iadd dX11_opens_26 ?_
      obtain ⟨j7, e_j7, l_j7, h⟩ := h
      refine u_iald dX11_opens_27 sh_67 (by decide) (by decide) e_j7 l_j7 ?_
      refine u_callV [.int a1, .int (q_i τ5 67 j7)] mX11_turnOne iX11_turnOne lX11_135 dX11_opens_28 sh_66 rfl rfl (by decide) ⟨rfl, rfl, id⟩ rfl rfl (Nat.le_of_ble_eq_true rfl) (Nat.le_of_ble_eq_true rfl) (v_X11_turnOne a1 (q_i τ5 67 j7) _ _ h) ?_
      rintro _ τ9 ⟨r8, rfl, h⟩
      refine v_goto (tgt := 36) dX11_opens_31 (by decide) ?_
      exact u_iret dX11_opens_36 ⟨rfl, id⟩ h
def L_X11_turnAll_46  (f1 : Int32) (f2 : Int32) (K : Int32 → Int32 → kT → Prop) (post : Int32 → kT → Prop) : Nat → Int32 → Int32 → kT → Prop
  | 0, _, _, _ => False
  | n + 1, x3, x4, τ => (∃ j9 : Nat, ((4212 : Int32) + f1) = nI j9 ∧ j9 < 8530 ∧ (((q_i τ 67 j9) ≤ x4 → K x3 x4 τ) ∧ (¬ (q_i τ 67 j9) ≤ x4 → (∀ τ11 : kT, τ11 = q_si τ 66 7 (-1 : Int32) → (∃ j12 : Nat, (((4224 : Int32) + ((20 : Int32) * f1)) + x4) = nI j12 ∧ j12 < 8530 ∧ (T_X11_tried 2 (q_i τ11 67 j12) f2 (0 : Int32) (1 : Int32) τ11 (fun r13 τ14 => (∀ τ15 : kT, τ15 = q_si τ14 66 6 (q_i τ14 66 7) → ((0 ≤ r13 → ((¬ r13 = 0 → (∀ v18 : Int32, v18 = x3 + (1 : Int32) → (∀ v19 : Int32, v19 = x4 + (1 : Int32) → L_X11_turnAll_46 f1 f2 K post n v18 v19 τ15))) ∧ (r13 = 0 → (T_X11_well x3 τ15 (fun r20 τ21 => post r20 τ21))))) ∧ (¬ 0 ≤ r13 → (T_X11_lacks r13 τ15 (fun r22 τ23 => post r22 τ23))))))))))))
def T_X11_turnAll (a1 : Int32) (a2 : Int32) (τ : kT) (post : Int32 → kT → Prop) : Prop := (T_X11_in ((a1).toInt64) (0 : Int64) ((((q_i τ 67 8524) - (1 : Int32))).toInt64) τ (fun r1 τ2 => ((r1 = 0 → post (-2 : Int32) τ2) ∧ (¬ r1 = 0 → (T_X11_isKey a2 τ2 (fun r4 τ5 => ((¬ r4 = 0 → (∀ τ7 : kT, τ7 = q_si τ5 66 9 (0 : Int32) → (∀ τ8 : kT, τ8 = q_si τ7 66 6 (-1 : Int32) → (∃ m24 : Nat, L_X11_turnAll_46  a1 a2 (fun v25 v26 τ27 => (T_X11_well v25 τ27 (fun r28 τ29 => post r28 τ29))) post m24 (0 : Int32) (0 : Int32) τ8)))) ∧ (r4 = 0 → post (-2 : Int32) τ5))))))))
set_option maxRecDepth 100000 in
set_option maxHeartbeats 4000000 in
theorem l_X11_turnAll_46 {d : Nat}  (f1 : Int32) (f2 : Int32) {K : Int32 → Int32 → kT → Prop} {post : Int32 → kT → Prop} (hK : ∀ (x3 : Int32) (x4 : Int32) (τ : kT), K x3 x4 τ → U yX11_turnAll cX11_turnAll 6 (some .int) (d + 4) kE0 131 [some (.ref 66), some (.int f1), some (.int f2), some (.int x3), some (.int x4), none] [] τ (k_pi post)) : ∀ (n : Nat) (x3 : Int32) (x4 : Int32) (τ : kT), L_X11_turnAll_46  f1 f2 K post n x3 x4 τ → U yX11_turnAll cX11_turnAll 6 (some .int) (d + 4) kE0 46 [some (.ref 66), some (.int f1), some (.int f2), some (.int x3), some (.int x4), none] [] τ (k_pi post) := by
  intro n
  induction n with
  | zero => intro x3 x4 τ h; exact h.elim
  | succ n ih =>
    intro x3 x4 τ h
    unfold L_X11_turnAll_46 at h
    refine v_iload dX11_turnAll_46 rfl ?_
    refine v_aload_n dX11_turnAll_48 rfl rfl ?_
    refine u_getr fX11_7 dX11_turnAll_49 sh_66 rfl (by decide) (rf_66_0 _) ?_
    refine v_sipush (v := 4212) dX11_turnAll_52 (by decide) ?_
    refine v_iload_n dX11_turnAll_55 rfl rfl ?_
    refine v_iadd dX11_turnAll_56 ?_
    obtain ⟨j9, e_j9, l_j9, h⟩ := h
    refine u_iald dX11_turnAll_57 sh_67 (by decide) (by decide) e_j9 l_j9 ?_
    refine v_icmp_ge (tgt := 131) dX11_turnAll_58 (by decide) (fun c10 => ?_) (fun c10 => ?_)
    · have h := h.1 c10
      exact hK x3 x4 _ h
    · have h := h.2 c10
      refine v_aload_n dX11_turnAll_61 rfl rfl ?_
      refine v_iconst (v := -1) dX11_turnAll_62 (by decide) ?_
      refine u_puti pX11_20 ⟨_, rfl⟩ dX11_turnAll_63 sh_66 rfl (by decide) (by decide) (fun τ11 e_τ11 => ?_)
      have h := h τ11 e_τ11
      refine v_aload_n dX11_turnAll_66 rfl rfl ?_
      refine v_aload_n dX11_turnAll_67 rfl rfl ?_
      refine u_getr fX11_7 dX11_turnAll_68 sh_66 rfl (by decide) (rf_66_0 _) ?_
      refine v_sipush (v := 4224) dX11_turnAll_71 (by decide) ?_
      refine v_bipush (v := 20) dX11_turnAll_74 (by decide) ?_
      refine v_iload_n dX11_turnAll_76 rfl rfl ?_
      refine v_imul dX11_turnAll_77 ?_
      refine v_iadd dX11_turnAll_78 ?_
      refine v_iload dX11_turnAll_79 rfl ?_
      refine v_iadd dX11_turnAll_81 ?_
      obtain ⟨j12, e_j12, l_j12, h⟩ := h
      refine u_iald dX11_turnAll_82 sh_67 (by decide) (by decide) e_j12 l_j12 ?_
      refine v_iload_n dX11_turnAll_83 rfl rfl ?_
      refine v_iconst (v := 0) dX11_turnAll_84 (by decide) ?_
      refine v_iconst (v := 1) dX11_turnAll_85 (by decide) ?_
      refine u_callV [.int (q_i τ11 67 j12), .int f2, .int (0 : Int32), .int (1 : Int32)] mX11_tried iX11_tried lX11_128 dX11_turnAll_86 sh_66 rfl rfl (by decide) ⟨rfl, rfl, id⟩ rfl rfl (Nat.le_of_ble_eq_true rfl) (Nat.le_of_ble_eq_true rfl) (v_X11_tried_N (q_i τ11 67 j12) f2 (0 : Int32) (1 : Int32) _ _ h) ?_
      rintro _ τ14 ⟨r13, rfl, h⟩
      refine v_istore dX11_turnAll_89 (by decide) rfl ?_
      refine v_ls (ls2 := [some (.ref 66), some (.int f1), some (.int f2), some (.int x3), some (.int x4), some (.int r13)]) rfl ?_
      refine v_aload_n dX11_turnAll_91 rfl rfl ?_
      refine v_aload_n dX11_turnAll_92 rfl rfl ?_
      refine u_geti fX11_20 dX11_turnAll_93 sh_66 rfl (by decide) ?_
      refine u_puti pX11_16 ⟨_, rfl⟩ dX11_turnAll_96 sh_66 rfl (by decide) (by decide) (fun τ15 e_τ15 => ?_)
      have h := h τ15 e_τ15
      refine v_iload dX11_turnAll_99 rfl ?_
      refine v_if_ge (tgt := 111) dX11_turnAll_101 (by decide) (fun c16 => ?_) (fun c16 => ?_)
      · have h := h.1 c16
        refine v_iload dX11_turnAll_111 rfl ?_
        refine v_if_ne (tgt := 122) dX11_turnAll_113 (by decide) (fun c17 => ?_) (fun c17 => ?_)
        · have h := h.1 c17
          obtain ⟨v18, e_v18⟩ : ∃ z : Int32, z = x3 + (1 : Int32) := ⟨_, rfl⟩
          have h := h v18 e_v18
          refine v_iinc (v := v18) dX11_turnAll_122 rfl (by rw [e_v18]; rfl) (by decide) rfl ?_
          refine v_ls (ls2 := [some (.ref 66), some (.int f1), some (.int f2), some (.int v18), some (.int x4), some (.int r13)]) rfl ?_
          obtain ⟨v19, e_v19⟩ : ∃ z : Int32, z = x4 + (1 : Int32) := ⟨_, rfl⟩
          have h := h v19 e_v19
          refine v_iinc (v := v19) dX11_turnAll_125 rfl (by rw [e_v19]; rfl) (by decide) rfl ?_
          refine v_ls (ls2 := [some (.ref 66), some (.int f1), some (.int f2), some (.int v18), some (.int v19), some (.int r13)]) rfl ?_
          refine v_goto (tgt := 46) dX11_turnAll_128 (by decide) ?_
          refine v_none 5 ?_
          refine v_ls (ls2 := [some (.ref 66), some (.int f1), some (.int f2), some (.int v18), some (.int v19), none]) rfl ?_
          exact ih v18 v19 _ h
        · have h := h.2 c17
          refine v_aload_n dX11_turnAll_116 rfl rfl ?_
          refine v_iload_n dX11_turnAll_117 rfl rfl ?_
          refine u_callV [.int x3] mX11_well iX11_well lX11_74 dX11_turnAll_118 sh_66 rfl rfl (by decide) ⟨rfl, rfl, id⟩ rfl rfl (Nat.le_of_ble_eq_true rfl) (Nat.le_of_ble_eq_true rfl) (v_X11_well x3 _ _ h) ?_
          rintro _ τ21 ⟨r20, rfl, h⟩
          exact u_iret dX11_turnAll_121 ⟨rfl, id⟩ h
      · have h := h.2 c16
        refine v_aload_n dX11_turnAll_104 rfl rfl ?_
        refine v_iload dX11_turnAll_105 rfl ?_
        refine u_callV [.int r13] mX11_lacks iX11_lacks lX11_132 dX11_turnAll_107 sh_66 rfl rfl (by decide) ⟨rfl, rfl, id⟩ rfl rfl (Nat.le_of_ble_eq_true rfl) (Nat.le_of_ble_eq_true rfl) (v_X11_lacks r13 _ _ h) ?_
        rintro _ τ23 ⟨r22, rfl, h⟩
        exact u_iret dX11_turnAll_110 ⟨rfl, id⟩ h
set_option maxRecDepth 100000 in
set_option maxHeartbeats 4000000 in
theorem v_X11_turnAll {d : Nat}  (a1 : Int32) (a2 : Int32) (τ : kT) (post : Int32 → kT → Prop) (h : T_X11_turnAll  a1 a2 τ post) : U yX11_turnAll cX11_turnAll 6 (some .int) (d + 4) kE0 0 [some (.ref 66), some (.int a1), some (.int a2), none, none, none] [] τ (k_pi post) := by
  unfold T_X11_turnAll at h
  refine v_iload_n dX11_turnAll_0 rfl rfl ?_
  refine v_i2l dX11_turnAll_1 ?_
  refine v_lconst (v := 0) dX11_turnAll_2 (by decide) ?_
  refine v_aload_n dX11_turnAll_3 rfl rfl ?_
  refine u_getr fX11_7 dX11_turnAll_4 sh_66 rfl (by decide) (rf_66_0 _) ?_
  refine v_sipush (v := 8524) dX11_turnAll_7 (by decide) ?_
  refine u_iald dX11_turnAll_10 sh_67 (by decide) (by decide) rfl (by decide) ?_
  refine v_iconst (v := 1) dX11_turnAll_11 (by decide) ?_
  refine v_isub dX11_turnAll_12 ?_
  refine v_i2l dX11_turnAll_13 ?_
  refine u_callS [.long ((a1).toInt64), .long (0 : Int64), .long ((((q_i τ 67 8524) - (1 : Int32))).toInt64)] mX11_in sX11_in lX11_67 dX11_turnAll_14 ⟨rfl, rfl, id⟩ rfl rfl (Nat.le_of_ble_eq_true rfl) (Nat.le_of_ble_eq_true rfl) (v_X11_in ((a1).toInt64) (0 : Int64) ((((q_i τ 67 8524) - (1 : Int32))).toInt64) _ _ h) ?_
  rintro _ τ2 ⟨r1, rfl, h⟩
  refine v_if_eq (tgt := 28) dX11_turnAll_17 (by decide) (fun c3 => ?_) (fun c3 => ?_)
  · have h := h.1 c3
    refine v_bipush (v := -2) dX11_turnAll_28 (by decide) ?_
    exact u_iret dX11_turnAll_30 ⟨rfl, id⟩ h
  · have h := h.2 c3
    refine v_aload_n dX11_turnAll_20 rfl rfl ?_
    refine v_iload_n dX11_turnAll_21 rfl rfl ?_
    refine u_callV [.int a2] mX11_isKey iX11_isKey lX11_125 dX11_turnAll_22 sh_66 rfl rfl (by decide) ⟨rfl, rfl, id⟩ rfl rfl (Nat.le_of_ble_eq_true rfl) (Nat.le_of_ble_eq_true rfl) (v_X11_isKey a2 _ _ h) ?_
    rintro _ τ5 ⟨r4, rfl, h⟩
    refine v_if_ne (tgt := 31) dX11_turnAll_25 (by decide) (fun c6 => ?_) (fun c6 => ?_)
    · have h := h.1 c6
      refine v_aload_n dX11_turnAll_31 rfl rfl ?_
      refine v_iconst (v := 0) dX11_turnAll_32 (by decide) ?_
      refine u_puti pX11_103 ⟨_, rfl⟩ dX11_turnAll_33 sh_66 rfl (by decide) (by decide) (fun τ7 e_τ7 => ?_)
      have h := h τ7 e_τ7
      refine v_aload_n dX11_turnAll_36 rfl rfl ?_
      refine v_iconst (v := -1) dX11_turnAll_37 (by decide) ?_
      refine u_puti pX11_16 ⟨_, rfl⟩ dX11_turnAll_38 sh_66 rfl (by decide) (by decide) (fun τ8 e_τ8 => ?_)
      have h := h τ8 e_τ8
      refine v_iconst (v := 0) dX11_turnAll_41 (by decide) ?_
      refine v_istore_n dX11_turnAll_42 rfl (by decide) rfl ?_
      refine v_ls (ls2 := [some (.ref 66), some (.int a1), some (.int a2), some (.int (0 : Int32)), none, none]) rfl ?_
      refine v_iconst (v := 0) dX11_turnAll_43 (by decide) ?_
      refine v_istore dX11_turnAll_44 (by decide) rfl ?_
      refine v_ls (ls2 := [some (.ref 66), some (.int a1), some (.int a2), some (.int (0 : Int32)), some (.int (0 : Int32)), none]) rfl ?_
      obtain ⟨m24, h⟩ := h
      refine l_X11_turnAll_46  a1 a2 (fun v25 v26 τ27 h => ?_) m24 (0 : Int32) (0 : Int32) _ h
      refine v_aload_n dX11_turnAll_131 rfl rfl ?_
      refine v_iload_n dX11_turnAll_132 rfl rfl ?_
      refine u_callV [.int v25] mX11_well iX11_well lX11_74 dX11_turnAll_133 sh_66 rfl rfl (by decide) ⟨rfl, rfl, id⟩ rfl rfl (Nat.le_of_ble_eq_true rfl) (Nat.le_of_ble_eq_true rfl) (v_X11_well v25 _ _ h) ?_
      rintro _ τ29 ⟨r28, rfl, h⟩
      exact u_iret dX11_turnAll_136 ⟨rfl, id⟩ h
    · have h := h.2 c6
      refine v_bipush (v := -2) dX11_turnAll_28 (by decide) ?_
      exact u_iret dX11_turnAll_30 ⟨rfl, id⟩ h
def T_X11_at  (τ : kT) (post : Int32 → kT → Prop) : Prop := post (q_i τ 66 6) τ
set_option maxRecDepth 100000 in
set_option maxHeartbeats 4000000 in
theorem v_X11_at {d : Nat}   (τ : kT) (post : Int32 → kT → Prop) (h : T_X11_at   τ post) : U yX11_at cX11_at 1 (some .int) (d + 0) kE0 0 [some (.ref 66)] [] τ (k_pi post) := by
  unfold T_X11_at at h
  refine v_aload_n dX11_at_0 rfl rfl ?_
  refine u_geti fX11_16 dX11_at_1 sh_66 rfl (by decide) ?_
  exact u_iret dX11_at_4 ⟨rfl, id⟩ h
def L_X11_cabinet_96  (f1 : Int32) (f2 : Int32) (f3 : Int32) (K : Int32 → kT → Prop) (post : Int32 → kT → Prop) : Nat → Int32 → kT → Prop
  | 0, _, _ => False
  | n + 1, x4, τ => (((20 : Int32) ≤ x4 → K x4 τ) ∧ (¬ (20 : Int32) ≤ x4 → (∃ j16 : Nat, (((4224 : Int32) + ((20 : Int32) * f3)) + x4) = nI j16 ∧ j16 < 8530 ∧ (∀ τ17 : kT, τ17 = q_si τ 67 j16 (-1 : Int32) → (∀ v18 : Int32, v18 = x4 + (1 : Int32) → L_X11_cabinet_96 f1 f2 f3 K post n v18 τ17)))))
def T_X11_cabinet (a1 : Int32) (a2 : Int32) (τ : kT) (post : Int32 → kT → Prop) : Prop := (T_X11_in ((a1).toInt64) (0 : Int64) (4 : Int64) τ (fun r1 τ2 => ((r1 = 0 → post (-2 : Int32) τ2) ∧ (¬ r1 = 0 → ((a2 ≤ (20 : Int32) → ((¬ (q_i τ2 67 8524) = (12 : Int32) → ((0 ≤ a2 → (T_X11_change  τ2 (fun τ8 => (∀ v9 : Int32, v9 = (q_i τ8 67 8524) → (∀ τ10 : kT, τ10 = q_si τ8 67 8524 (v9 + (1 : Int32)) → (∃ j11 : Nat, ((4200 : Int32) + v9) = nI j11 ∧ j11 < 8530 ∧ (∀ τ12 : kT, τ12 = q_si τ10 67 j11 a1 → (∃ j13 : Nat, ((4212 : Int32) + v9) = nI j13 ∧ j13 < 8530 ∧ (∀ τ14 : kT, τ14 = q_si τ12 67 j13 a2 → (∃ m19 : Nat, L_X11_cabinet_96  a1 a2 v9 (fun v20 τ21 => (T_X11_well v9 τ21 (fun r22 τ23 => post r22 τ23))) post m19 (0 : Int32) τ14)))))))))) ∧ (¬ 0 ≤ a2 → (T_X11_met (5 : Int32) τ2 (fun r24 τ25 => post r24 τ25))))) ∧ ((q_i τ2 67 8524) = (12 : Int32) → post (-4 : Int32) τ2))) ∧ (¬ a2 ≤ (20 : Int32) → post (-2 : Int32) τ2))))))
set_option maxRecDepth 100000 in
set_option maxHeartbeats 4000000 in
theorem l_X11_cabinet_96 {d : Nat}  (f1 : Int32) (f2 : Int32) (f3 : Int32) {K : Int32 → kT → Prop} {post : Int32 → kT → Prop} (hK : ∀ (x4 : Int32) (τ : kT), K x4 τ → U yX11_cabinet cX11_cabinet 5 (some .int) (d + 1) kE0 126 [some (.ref 66), some (.int f1), some (.int f2), some (.int f3), some (.int x4)] [] τ (k_pi post)) : ∀ (n : Nat) (x4 : Int32) (τ : kT), L_X11_cabinet_96  f1 f2 f3 K post n x4 τ → U yX11_cabinet cX11_cabinet 5 (some .int) (d + 1) kE0 96 [some (.ref 66), some (.int f1), some (.int f2), some (.int f3), some (.int x4)] [] τ (k_pi post) := by
  intro n
  induction n with
  | zero => intro x4 τ h; exact h.elim
  | succ n ih =>
    intro x4 τ h
    unfold L_X11_cabinet_96 at h
    refine v_iload dX11_cabinet_96 rfl ?_
    refine v_bipush (v := 20) dX11_cabinet_98 (by decide) ?_
    refine v_icmp_ge (tgt := 126) dX11_cabinet_100 (by decide) (fun c15 => ?_) (fun c15 => ?_)
    · have h := h.1 c15
      exact hK x4 _ h
    · have h := h.2 c15
      refine v_aload_n dX11_cabinet_103 rfl rfl ?_
      refine u_getr fX11_7 dX11_cabinet_104 sh_66 rfl (by decide) (rf_66_0 _) ?_
      refine v_sipush (v := 4224) dX11_cabinet_107 (by decide) ?_
      refine v_bipush (v := 20) dX11_cabinet_110 (by decide) ?_
      refine v_iload_n dX11_cabinet_112 rfl rfl ?_
      refine v_imul dX11_cabinet_113 ?_
      refine v_iadd dX11_cabinet_114 ?_
      refine v_iload dX11_cabinet_115 rfl ?_
      refine v_iadd dX11_cabinet_117 ?_
      refine v_iconst (v := -1) dX11_cabinet_118 (by decide) ?_
      obtain ⟨j16, e_j16, l_j16, h⟩ := h
      refine u_iast dX11_cabinet_119 sh_67 (by decide) (by decide) e_j16 l_j16 (fun τ17 e_τ17 => ?_)
      have h := h τ17 e_τ17
      obtain ⟨v18, e_v18⟩ : ∃ z : Int32, z = x4 + (1 : Int32) := ⟨_, rfl⟩
      have h := h v18 e_v18
      refine v_iinc (v := v18) dX11_cabinet_120 rfl (by rw [e_v18]; rfl) (by decide) rfl ?_
      refine v_ls (ls2 := [some (.ref 66), some (.int f1), some (.int f2), some (.int f3), some (.int v18)]) rfl ?_
      refine v_goto (tgt := 96) dX11_cabinet_123 (by decide) ?_
      exact ih v18 _ h
set_option maxRecDepth 100000 in
set_option maxHeartbeats 4000000 in
theorem v_X11_cabinet {d : Nat}  (a1 : Int32) (a2 : Int32) (τ : kT) (post : Int32 → kT → Prop) (h : T_X11_cabinet  a1 a2 τ post) : U yX11_cabinet cX11_cabinet 5 (some .int) (d + 1) kE0 0 [some (.ref 66), some (.int a1), some (.int a2), none, none] [] τ (k_pi post) := by
  unfold T_X11_cabinet at h
  refine v_iload_n dX11_cabinet_0 rfl rfl ?_
  refine v_i2l dX11_cabinet_1 ?_
  refine v_lconst (v := 0) dX11_cabinet_2 (by decide) ?_
  refine v_ldc2 kX11_141 dX11_cabinet_3 ?_
  refine u_callS [.long ((a1).toInt64), .long (0 : Int64), .long (4 : Int64)] mX11_in sX11_in lX11_67 dX11_cabinet_6 ⟨rfl, rfl, id⟩ rfl rfl (Nat.le_of_ble_eq_true rfl) (Nat.le_of_ble_eq_true rfl) (v_X11_in ((a1).toInt64) (0 : Int64) (4 : Int64) _ _ h) ?_
  rintro _ τ2 ⟨r1, rfl, h⟩
  refine v_if_eq (tgt := 18) dX11_cabinet_9 (by decide) (fun c3 => ?_) (fun c3 => ?_)
  · have h := h.1 c3
    refine v_bipush (v := -2) dX11_cabinet_18 (by decide) ?_
    exact u_iret dX11_cabinet_20 ⟨rfl, id⟩ h
  · have h := h.2 c3
    refine v_iload_n dX11_cabinet_12 rfl rfl ?_
    refine v_bipush (v := 20) dX11_cabinet_13 (by decide) ?_
    refine v_icmp_le (tgt := 21) dX11_cabinet_15 (by decide) (fun c4 => ?_) (fun c4 => ?_)
    · have h := h.1 c4
      refine v_aload_n dX11_cabinet_21 rfl rfl ?_
      refine u_getr fX11_7 dX11_cabinet_22 sh_66 rfl (by decide) (rf_66_0 _) ?_
      refine v_sipush (v := 8524) dX11_cabinet_25 (by decide) ?_
      refine u_iald dX11_cabinet_28 sh_67 (by decide) (by decide) rfl (by decide) ?_
      refine v_bipush (v := 12) dX11_cabinet_29 (by decide) ?_
      refine v_icmp_ne (tgt := 37) dX11_cabinet_31 (by decide) (fun c5 => ?_) (fun c5 => ?_)
      · have h := h.1 c5
        refine v_iload_n dX11_cabinet_37 rfl rfl ?_
        refine v_if_ge (tgt := 47) dX11_cabinet_38 (by decide) (fun c6 => ?_) (fun c6 => ?_)
        · have h := h.1 c6
          refine v_aload_n dX11_cabinet_47 rfl rfl ?_
          refine u_callV [] mX11_change iX11_change lX11_71 dX11_cabinet_48 sh_66 rfl rfl (by decide) ⟨rfl, rfl, id⟩ rfl rfl (Nat.le_of_ble_eq_true rfl) (Nat.le_of_ble_eq_true rfl) (v_X11_change  _ _ h) ?_
          rintro _ τ8 ⟨rfl, h⟩
          refine v_aload_n dX11_cabinet_51 rfl rfl ?_
          refine u_getr fX11_7 dX11_cabinet_52 sh_66 rfl (by decide) (rf_66_0 _) ?_
          refine v_sipush (v := 8524) dX11_cabinet_55 (by decide) ?_
          refine u_iald dX11_cabinet_58 sh_67 (by decide) (by decide) rfl (by decide) ?_
          refine v_topi (fun v9 e_v9 => ?_)
          have h := h v9 e_v9
          refine v_istore_n dX11_cabinet_59 rfl (by decide) rfl ?_
          refine v_ls (ls2 := [some (.ref 66), some (.int a1), some (.int a2), some (.int v9), none]) rfl ?_
          refine v_aload_n dX11_cabinet_60 rfl rfl ?_
          refine u_getr fX11_7 dX11_cabinet_61 sh_66 rfl (by decide) (rf_66_0 _) ?_
          refine v_sipush (v := 8524) dX11_cabinet_64 (by decide) ?_
          refine v_iload_n dX11_cabinet_67 rfl rfl ?_
          refine v_iconst (v := 1) dX11_cabinet_68 (by decide) ?_
          refine v_iadd dX11_cabinet_69 ?_
          refine u_iast dX11_cabinet_70 sh_67 (by decide) (by decide) rfl (by decide) (fun τ10 e_τ10 => ?_)
          have h := h τ10 e_τ10
          refine v_aload_n dX11_cabinet_71 rfl rfl ?_
          refine u_getr fX11_7 dX11_cabinet_72 sh_66 rfl (by decide) (rf_66_0 _) ?_
          refine v_sipush (v := 4200) dX11_cabinet_75 (by decide) ?_
          refine v_iload_n dX11_cabinet_78 rfl rfl ?_
          refine v_iadd dX11_cabinet_79 ?_
          refine v_iload_n dX11_cabinet_80 rfl rfl ?_
          obtain ⟨j11, e_j11, l_j11, h⟩ := h
          refine u_iast dX11_cabinet_81 sh_67 (by decide) (by decide) e_j11 l_j11 (fun τ12 e_τ12 => ?_)
          have h := h τ12 e_τ12
          refine v_aload_n dX11_cabinet_82 rfl rfl ?_
          refine u_getr fX11_7 dX11_cabinet_83 sh_66 rfl (by decide) (rf_66_0 _) ?_
          refine v_sipush (v := 4212) dX11_cabinet_86 (by decide) ?_
          refine v_iload_n dX11_cabinet_89 rfl rfl ?_
          refine v_iadd dX11_cabinet_90 ?_
          refine v_iload_n dX11_cabinet_91 rfl rfl ?_
          obtain ⟨j13, e_j13, l_j13, h⟩ := h
          refine u_iast dX11_cabinet_92 sh_67 (by decide) (by decide) e_j13 l_j13 (fun τ14 e_τ14 => ?_)
          have h := h τ14 e_τ14
          refine v_iconst (v := 0) dX11_cabinet_93 (by decide) ?_
          refine v_istore dX11_cabinet_94 (by decide) rfl ?_
          refine v_ls (ls2 := [some (.ref 66), some (.int a1), some (.int a2), some (.int v9), some (.int (0 : Int32))]) rfl ?_
          obtain ⟨m19, h⟩ := h
          refine l_X11_cabinet_96  a1 a2 v9 (fun v20 τ21 h => ?_) m19 (0 : Int32) _ h
          refine v_aload_n dX11_cabinet_126 rfl rfl ?_
          refine v_iload_n dX11_cabinet_127 rfl rfl ?_
          refine u_callV [.int v9] mX11_well iX11_well lX11_74 dX11_cabinet_128 sh_66 rfl rfl (by decide) ⟨rfl, rfl, id⟩ rfl rfl (Nat.le_of_ble_eq_true rfl) (Nat.le_of_ble_eq_true rfl) (v_X11_well v9 _ _ h) ?_
          rintro _ τ23 ⟨r22, rfl, h⟩
          exact u_iret dX11_cabinet_131 ⟨rfl, id⟩ h
        · have h := h.2 c6
          refine v_aload_n dX11_cabinet_41 rfl rfl ?_
          refine v_iconst (v := 5) dX11_cabinet_42 (by decide) ?_
          refine u_callV [.int (5 : Int32)] mX11_met iX11_met lX11_80 dX11_cabinet_43 sh_66 rfl rfl (by decide) ⟨rfl, rfl, id⟩ rfl rfl (Nat.le_of_ble_eq_true rfl) (Nat.le_of_ble_eq_true rfl) (v_X11_met (5 : Int32) _ _ h) ?_
          rintro _ τ25 ⟨r24, rfl, h⟩
          exact u_iret dX11_cabinet_46 ⟨rfl, id⟩ h
      · have h := h.2 c5
        refine v_bipush (v := -4) dX11_cabinet_34 (by decide) ?_
        exact u_iret dX11_cabinet_36 ⟨rfl, id⟩ h
    · have h := h.2 c4
      refine v_bipush (v := -2) dX11_cabinet_18 (by decide) ?_
      exact u_iret dX11_cabinet_20 ⟨rfl, id⟩ h
def T_X11_is (a1 : Int32) (a2 : Int32) (τ : kT) (post : Int32 → kT → Prop) : Prop := ((a1 = a2 → post (1 : Int32) τ) ∧ (¬ a1 = a2 → ((¬ a2 = 0 → ((¬ a2 = (1 : Int32) → post (0 : Int32) τ) ∧ (a2 = (1 : Int32) → ((¬ a1 = (2 : Int32) → post (0 : Int32) τ) ∧ (a1 = (2 : Int32) → post (1 : Int32) τ))))) ∧ (a2 = 0 → ((¬ a1 = (4 : Int32) → post (1 : Int32) τ) ∧ (a1 = (4 : Int32) → ((¬ a2 = (1 : Int32) → post (0 : Int32) τ) ∧ (a2 = (1 : Int32) → ((¬ a1 = (2 : Int32) → post (0 : Int32) τ) ∧ (a1 = (2 : Int32) → post (1 : Int32) τ))))))))))
set_option maxRecDepth 100000 in
set_option maxHeartbeats 4000000 in
theorem v_X11_is {d : Nat}  (a1 : Int32) (a2 : Int32) (τ : kT) (post : Int32 → kT → Prop) (h : T_X11_is  a1 a2 τ post) : U yX11_is cX11_is 2 (some .boolean) (d + 0) kE0 0 [some (.int a1), some (.int a2)] [] τ (k_pi post) := by
  unfold T_X11_is at h
  refine v_iload_n dX11_is_0 rfl rfl ?_
  refine v_iload_n dX11_is_1 rfl rfl ?_
  refine v_icmp_eq (tgt := 24) dX11_is_2 (by decide) (fun c1 => ?_) (fun c1 => ?_)
  · have h := h.1 c1
    refine v_iconst (v := 1) dX11_is_24 (by decide) ?_
    refine v_goto (tgt := 29) dX11_is_25 (by decide) ?_
    exact u_zret dX11_is_29 rfl ⟨rfl, id⟩ h
  · have h := h.2 c1
    refine v_iload_n dX11_is_5 rfl rfl ?_
    refine v_if_ne (tgt := 14) dX11_is_6 (by decide) (fun c2 => ?_) (fun c2 => ?_)
    · have h := h.1 c2
      refine v_iload_n dX11_is_14 rfl rfl ?_
      refine v_iconst (v := 1) dX11_is_15 (by decide) ?_
      refine v_icmp_ne (tgt := 28) dX11_is_16 (by decide) (fun c3 => ?_) (fun c3 => ?_)
      · have h := h.1 c3
        refine v_iconst (v := 0) dX11_is_28 (by decide) ?_
        exact u_zret dX11_is_29 rfl ⟨rfl, id⟩ h
      · have h := h.2 c3
        refine v_iload_n dX11_is_19 rfl rfl ?_
        refine v_iconst (v := 2) dX11_is_20 (by decide) ?_
        refine v_icmp_ne (tgt := 28) dX11_is_21 (by decide) (fun c4 => ?_) (fun c4 => ?_)
        · have h := h.1 c4
          refine v_iconst (v := 0) dX11_is_28 (by decide) ?_
          exact u_zret dX11_is_29 rfl ⟨rfl, id⟩ h
        · have h := h.2 c4
          refine v_iconst (v := 1) dX11_is_24 (by decide) ?_
          refine v_goto (tgt := 29) dX11_is_25 (by decide) ?_
          exact u_zret dX11_is_29 rfl ⟨rfl, id⟩ h
    · have h := h.2 c2
      refine v_iload_n dX11_is_9 rfl rfl ?_
      refine v_iconst (v := 4) dX11_is_10 (by decide) ?_
      refine v_icmp_ne (tgt := 24) dX11_is_11 (by decide) (fun c5 => ?_) (fun c5 => ?_)
      · have h := h.1 c5
        refine v_iconst (v := 1) dX11_is_24 (by decide) ?_
        refine v_goto (tgt := 29) dX11_is_25 (by decide) ?_
        exact u_zret dX11_is_29 rfl ⟨rfl, id⟩ h
      · have h := h.2 c5
        refine v_iload_n dX11_is_14 rfl rfl ?_
        refine v_iconst (v := 1) dX11_is_15 (by decide) ?_
        refine v_icmp_ne (tgt := 28) dX11_is_16 (by decide) (fun c6 => ?_) (fun c6 => ?_)
        · have h := h.1 c6
          refine v_iconst (v := 0) dX11_is_28 (by decide) ?_
          exact u_zret dX11_is_29 rfl ⟨rfl, id⟩ h
        · have h := h.2 c6
          refine v_iload_n dX11_is_19 rfl rfl ?_
          refine v_iconst (v := 2) dX11_is_20 (by decide) ?_
          refine v_icmp_ne (tgt := 28) dX11_is_21 (by decide) (fun c7 => ?_) (fun c7 => ?_)
          · have h := h.1 c7
            refine v_iconst (v := 0) dX11_is_28 (by decide) ?_
            exact u_zret dX11_is_29 rfl ⟨rfl, id⟩ h
          · have h := h.2 c7
            refine v_iconst (v := 1) dX11_is_24 (by decide) ?_
            refine v_goto (tgt := 29) dX11_is_25 (by decide) ?_
            exact u_zret dX11_is_29 rfl ⟨rfl, id⟩ h
def T_X11_put (a1 : Int32) (a2 : Int32) (a3 : Int32) (τ : kT) (post : Int32 → kT → Prop) : Prop := (T_X11_in ((a1).toInt64) (0 : Int64) ((((q_i τ 67 8524) - (1 : Int32))).toInt64) τ (fun r1 τ2 => ((r1 = 0 → post (-2 : Int32) τ2) ∧ (¬ r1 = 0 → ((a3 = (-1 : Int32) → (∃ j5 : Nat, ((4212 : Int32) + a1) = nI j5 ∧ j5 < 8530 ∧ (T_X11_in ((a2).toInt64) (0 : Int64) ((((q_i τ2 67 j5) - (1 : Int32))).toInt64) τ2 (fun r6 τ7 => ((¬ r6 = 0 → ((a3 = (-1 : Int32) → (T_X11_change  τ7 (fun τ11 => (∃ j12 : Nat, (((4224 : Int32) + ((20 : Int32) * a1)) + a2) = nI j12 ∧ j12 < 8530 ∧ (∀ v13 : Int32, v13 = (q_i τ11 67 j12) → (∃ j14 : Nat, (((4224 : Int32) + ((20 : Int32) * a1)) + a2) = nI j14 ∧ j14 < 8530 ∧ (∀ τ15 : kT, τ15 = q_si τ11 67 j14 a3 → (T_X11_well v13 τ15 (fun r16 τ17 => post r16 τ17))))))))) ∧ (¬ a3 = (-1 : Int32) → (∃ j18 : Nat, ((0 : Int32) + a3) = nI j18 ∧ j18 < 8530 ∧ (∃ j19 : Nat, ((4200 : Int32) + a1) = nI j19 ∧ j19 < 8530 ∧ (T_X11_is (q_i τ7 67 j18) (q_i τ7 67 j19) τ7 (fun r20 τ21 => ((¬ r20 = 0 → (T_X11_change  τ21 (fun τ24 => (∃ j25 : Nat, (((4224 : Int32) + ((20 : Int32) * a1)) + a2) = nI j25 ∧ j25 < 8530 ∧ (∀ v26 : Int32, v26 = (q_i τ24 67 j25) → (∃ j27 : Nat, (((4224 : Int32) + ((20 : Int32) * a1)) + a2) = nI j27 ∧ j27 < 8530 ∧ (∀ τ28 : kT, τ28 = q_si τ24 67 j27 a3 → (T_X11_well v26 τ28 (fun r29 τ30 => post r29 τ30))))))))) ∧ (r20 = 0 → (T_X11_met (4 : Int32) τ21 (fun r31 τ32 => post r31 τ32))))))))))) ∧ (r6 = 0 → (T_X11_met (2 : Int32) τ7 (fun r33 τ34 => post r33 τ34)))))))) ∧ (¬ a3 = (-1 : Int32) → (T_X11_isCylinder a3 τ2 (fun r35 τ36 => ((¬ r35 = 0 → (∃ j38 : Nat, ((4212 : Int32) + a1) = nI j38 ∧ j38 < 8530 ∧ (T_X11_in ((a2).toInt64) (0 : Int64) ((((q_i τ36 67 j38) - (1 : Int32))).toInt64) τ36 (fun r39 τ40 => ((¬ r39 = 0 → ((a3 = (-1 : Int32) → (T_X11_change  τ40 (fun τ44 => (∃ j45 : Nat, (((4224 : Int32) + ((20 : Int32) * a1)) + a2) = nI j45 ∧ j45 < 8530 ∧ (∀ v46 : Int32, v46 = (q_i τ44 67 j45) → (∃ j47 : Nat, (((4224 : Int32) + ((20 : Int32) * a1)) + a2) = nI j47 ∧ j47 < 8530 ∧ (∀ τ48 : kT, τ48 = q_si τ44 67 j47 a3 → (T_X11_well v46 τ48 (fun r49 τ50 => post r49 τ50))))))))) ∧ (¬ a3 = (-1 : Int32) → (∃ j51 : Nat, ((0 : Int32) + a3) = nI j51 ∧ j51 < 8530 ∧ (∃ j52 : Nat, ((4200 : Int32) + a1) = nI j52 ∧ j52 < 8530 ∧ (T_X11_is (q_i τ40 67 j51) (q_i τ40 67 j52) τ40 (fun r53 τ54 => ((¬ r53 = 0 → (T_X11_change  τ54 (fun τ57 => (∃ j58 : Nat, (((4224 : Int32) + ((20 : Int32) * a1)) + a2) = nI j58 ∧ j58 < 8530 ∧ (∀ v59 : Int32, v59 = (q_i τ57 67 j58) → (∃ j60 : Nat, (((4224 : Int32) + ((20 : Int32) * a1)) + a2) = nI j60 ∧ j60 < 8530 ∧ (∀ τ61 : kT, τ61 = q_si τ57 67 j60 a3 → (T_X11_well v59 τ61 (fun r62 τ63 => post r62 τ63))))))))) ∧ (r53 = 0 → (T_X11_met (4 : Int32) τ54 (fun r64 τ65 => post r64 τ65))))))))))) ∧ (r39 = 0 → (T_X11_met (2 : Int32) τ40 (fun r66 τ67 => post r66 τ67)))))))) ∧ (r35 = 0 → post (-2 : Int32) τ36))))))))))
set_option maxRecDepth 100000 in
set_option maxHeartbeats 4000000 in
theorem v_X11_put {d : Nat}  (a1 : Int32) (a2 : Int32) (a3 : Int32) (τ : kT) (post : Int32 → kT → Prop) (h : T_X11_put  a1 a2 a3 τ post) : U yX11_put cX11_put 5 (some .int) (d + 2) kE0 0 [some (.ref 66), some (.int a1), some (.int a2), some (.int a3), none] [] τ (k_pi post) := by
  unfold T_X11_put at h
  refine v_iload_n dX11_put_0 rfl rfl ?_
  refine v_i2l dX11_put_1 ?_
  refine v_lconst (v := 0) dX11_put_2 (by decide) ?_
  refine v_aload_n dX11_put_3 rfl rfl ?_
  refine u_getr fX11_7 dX11_put_4 sh_66 rfl (by decide) (rf_66_0 _) ?_
  refine v_sipush (v := 8524) dX11_put_7 (by decide) ?_
  refine u_iald dX11_put_10 sh_67 (by decide) (by decide) rfl (by decide) ?_
  refine v_iconst (v := 1) dX11_put_11 (by decide) ?_
  refine v_isub dX11_put_12 ?_
  refine v_i2l dX11_put_13 ?_
  refine u_callS [.long ((a1).toInt64), .long (0 : Int64), .long ((((q_i τ 67 8524) - (1 : Int32))).toInt64)] mX11_in sX11_in lX11_67 dX11_put_14 ⟨rfl, rfl, id⟩ rfl rfl (Nat.le_of_ble_eq_true rfl) (Nat.le_of_ble_eq_true rfl) (v_X11_in ((a1).toInt64) (0 : Int64) ((((q_i τ 67 8524) - (1 : Int32))).toInt64) _ _ h) ?_
  rintro _ τ2 ⟨r1, rfl, h⟩
  refine v_if_eq (tgt := 33) dX11_put_17 (by decide) (fun c3 => ?_) (fun c3 => ?_)
  · have h := h.1 c3
    refine v_bipush (v := -2) dX11_put_33 (by decide) ?_
    exact u_iret dX11_put_35 ⟨rfl, id⟩ h
  · have h := h.2 c3
    refine v_iload_n dX11_put_20 rfl rfl ?_
    refine v_iconst (v := -1) dX11_put_21 (by decide) ?_
    refine v_icmp_eq (tgt := 36) dX11_put_22 (by decide) (fun c4 => ?_) (fun c4 => ?_)
    · have h := h.1 c4
      refine v_iload_n dX11_put_36 rfl rfl ?_
      refine v_i2l dX11_put_37 ?_
      refine v_lconst (v := 0) dX11_put_38 (by decide) ?_
      refine v_aload_n dX11_put_39 rfl rfl ?_
      refine u_getr fX11_7 dX11_put_40 sh_66 rfl (by decide) (rf_66_0 _) ?_
      refine v_sipush (v := 4212) dX11_put_43 (by decide) ?_
      refine v_iload_n dX11_put_46 rfl rfl ?_
      refine v_iadd dX11_put_47 ?_
      obtain ⟨j5, e_j5, l_j5, h⟩ := h
      refine u_iald dX11_put_48 sh_67 (by decide) (by decide) e_j5 l_j5 ?_
      refine v_iconst (v := 1) dX11_put_49 (by decide) ?_
      refine v_isub dX11_put_50 ?_
      refine v_i2l dX11_put_51 ?_
      refine u_callS [.long ((a2).toInt64), .long (0 : Int64), .long ((((q_i τ2 67 j5) - (1 : Int32))).toInt64)] mX11_in sX11_in lX11_67 dX11_put_52 ⟨rfl, rfl, id⟩ rfl rfl (Nat.le_of_ble_eq_true rfl) (Nat.le_of_ble_eq_true rfl) (v_X11_in ((a2).toInt64) (0 : Int64) ((((q_i τ2 67 j5) - (1 : Int32))).toInt64) _ _ h) ?_
      rintro _ τ7 ⟨r6, rfl, h⟩
      refine v_if_ne (tgt := 64) dX11_put_55 (by decide) (fun c8 => ?_) (fun c8 => ?_)
      · have h := h.1 c8
        refine v_iload_n dX11_put_64 rfl rfl ?_
        refine v_iconst (v := -1) dX11_put_65 (by decide) ?_
        refine v_icmp_eq (tgt := 99) dX11_put_66 (by decide) (fun c9 => ?_) (fun c9 => ?_)
        · have h := h.1 c9
          refine v_aload_n dX11_put_99 rfl rfl ?_
          refine u_callV [] mX11_change iX11_change lX11_71 dX11_put_100 sh_66 rfl rfl (by decide) ⟨rfl, rfl, id⟩ rfl rfl (Nat.le_of_ble_eq_true rfl) (Nat.le_of_ble_eq_true rfl) (v_X11_change  _ _ h) ?_
          rintro _ τ11 ⟨rfl, h⟩
          refine v_aload_n dX11_put_103 rfl rfl ?_
          refine u_getr fX11_7 dX11_put_104 sh_66 rfl (by decide) (rf_66_0 _) ?_
          refine v_sipush (v := 4224) dX11_put_107 (by decide) ?_
          refine v_bipush (v := 20) dX11_put_110 (by decide) ?_
          refine v_iload_n dX11_put_112 rfl rfl ?_
          refine v_imul dX11_put_113 ?_
          refine v_iadd dX11_put_114 ?_
          refine v_iload_n dX11_put_115 rfl rfl ?_
          refine v_iadd dX11_put_116 ?_
          obtain ⟨j12, e_j12, l_j12, h⟩ := h
          refine u_iald dX11_put_117 sh_67 (by decide) (by decide) e_j12 l_j12 ?_
          refine v_topi (fun v13 e_v13 => ?_)
          have h := h v13 e_v13
          refine v_istore dX11_put_118 (by decide) rfl ?_
          refine v_ls (ls2 := [some (.ref 66), some (.int a1), some (.int a2), some (.int a3), some (.int v13)]) rfl ?_
          refine v_aload_n dX11_put_120 rfl rfl ?_
          refine u_getr fX11_7 dX11_put_121 sh_66 rfl (by decide) (rf_66_0 _) ?_
          refine v_sipush (v := 4224) dX11_put_124 (by decide) ?_
          refine v_bipush (v := 20) dX11_put_127 (by decide) ?_
          refine v_iload_n dX11_put_129 rfl rfl ?_
          refine v_imul dX11_put_130 ?_
          refine v_iadd dX11_put_131 ?_
          refine v_iload_n dX11_put_132 rfl rfl ?_
          refine v_iadd dX11_put_133 ?_
          refine v_iload_n dX11_put_134 rfl rfl ?_
          obtain ⟨j14, e_j14, l_j14, h⟩ := h
          refine u_iast dX11_put_135 sh_67 (by decide) (by decide) e_j14 l_j14 (fun τ15 e_τ15 => ?_)
          have h := h τ15 e_τ15
          refine v_aload_n dX11_put_136 rfl rfl ?_
          refine v_iload dX11_put_137 rfl ?_
          refine u_callV [.int v13] mX11_well iX11_well lX11_74 dX11_put_139 sh_66 rfl rfl (by decide) ⟨rfl, rfl, id⟩ rfl rfl (Nat.le_of_ble_eq_true rfl) (Nat.le_of_ble_eq_true rfl) (v_X11_well v13 _ _ h) ?_
          rintro _ τ17 ⟨r16, rfl, h⟩
          exact u_iret dX11_put_142 ⟨rfl, id⟩ h
        · have h := h.2 c9
          refine v_aload_n dX11_put_69 rfl rfl ?_
          refine u_getr fX11_7 dX11_put_70 sh_66 rfl (by decide) (rf_66_0 _) ?_
          refine v_iconst (v := 0) dX11_put_73 (by decide) ?_
          refine v_iload_n dX11_put_74 rfl rfl ?_
          refine v_iadd dX11_put_75 ?_
          obtain ⟨j18, e_j18, l_j18, h⟩ := h
          refine u_iald dX11_put_76 sh_67 (by decide) (by decide) e_j18 l_j18 ?_
          refine v_aload_n dX11_put_77 rfl rfl ?_
          refine u_getr fX11_7 dX11_put_78 sh_66 rfl (by decide) (rf_66_0 _) ?_
          refine v_sipush (v := 4200) dX11_put_81 (by decide) ?_
          refine v_iload_n dX11_put_84 rfl rfl ?_
          refine v_iadd dX11_put_85 ?_
          obtain ⟨j19, e_j19, l_j19, h⟩ := h
          refine u_iald dX11_put_86 sh_67 (by decide) (by decide) e_j19 l_j19 ?_
          refine u_callS [.int (q_i τ7 67 j18), .int (q_i τ7 67 j19)] mX11_is sX11_is lX11_143 dX11_put_87 ⟨rfl, rfl, id⟩ rfl rfl (Nat.le_of_ble_eq_true rfl) (Nat.le_of_ble_eq_true rfl) (v_X11_is (q_i τ7 67 j18) (q_i τ7 67 j19) _ _ h) ?_
          rintro _ τ21 ⟨r20, rfl, h⟩
          refine v_if_ne (tgt := 99) dX11_put_90 (by decide) (fun c22 => ?_) (fun c22 => ?_)
          · have h := h.1 c22
            refine v_aload_n dX11_put_99 rfl rfl ?_
            refine u_callV [] mX11_change iX11_change lX11_71 dX11_put_100 sh_66 rfl rfl (by decide) ⟨rfl, rfl, id⟩ rfl rfl (Nat.le_of_ble_eq_true rfl) (Nat.le_of_ble_eq_true rfl) (v_X11_change  _ _ h) ?_
            rintro _ τ24 ⟨rfl, h⟩
            refine v_aload_n dX11_put_103 rfl rfl ?_
            refine u_getr fX11_7 dX11_put_104 sh_66 rfl (by decide) (rf_66_0 _) ?_
            refine v_sipush (v := 4224) dX11_put_107 (by decide) ?_
            refine v_bipush (v := 20) dX11_put_110 (by decide) ?_
            refine v_iload_n dX11_put_112 rfl rfl ?_
            refine v_imul dX11_put_113 ?_
            refine v_iadd dX11_put_114 ?_
            refine v_iload_n dX11_put_115 rfl rfl ?_
            refine v_iadd dX11_put_116 ?_
            obtain ⟨j25, e_j25, l_j25, h⟩ := h
            refine u_iald dX11_put_117 sh_67 (by decide) (by decide) e_j25 l_j25 ?_
            refine v_topi (fun v26 e_v26 => ?_)
            have h := h v26 e_v26
            refine v_istore dX11_put_118 (by decide) rfl ?_
            refine v_ls (ls2 := [some (.ref 66), some (.int a1), some (.int a2), some (.int a3), some (.int v26)]) rfl ?_
            refine v_aload_n dX11_put_120 rfl rfl ?_
            refine u_getr fX11_7 dX11_put_121 sh_66 rfl (by decide) (rf_66_0 _) ?_
            refine v_sipush (v := 4224) dX11_put_124 (by decide) ?_
            refine v_bipush (v := 20) dX11_put_127 (by decide) ?_
            refine v_iload_n dX11_put_129 rfl rfl ?_
            refine v_imul dX11_put_130 ?_
            refine v_iadd dX11_put_131 ?_
            refine v_iload_n dX11_put_132 rfl rfl ?_
            refine v_iadd dX11_put_133 ?_
            refine v_iload_n dX11_put_134 rfl rfl ?_
            obtain ⟨j27, e_j27, l_j27, h⟩ := h
            refine u_iast dX11_put_135 sh_67 (by decide) (by decide) e_j27 l_j27 (fun τ28 e_τ28 => ?_)
            have h := h τ28 e_τ28
            refine v_aload_n dX11_put_136 rfl rfl ?_
            refine v_iload dX11_put_137 rfl ?_
            refine u_callV [.int v26] mX11_well iX11_well lX11_74 dX11_put_139 sh_66 rfl rfl (by decide) ⟨rfl, rfl, id⟩ rfl rfl (Nat.le_of_ble_eq_true rfl) (Nat.le_of_ble_eq_true rfl) (v_X11_well v26 _ _ h) ?_
            rintro _ τ30 ⟨r29, rfl, h⟩
            exact u_iret dX11_put_142 ⟨rfl, id⟩ h
          · have h := h.2 c22
            refine v_aload_n dX11_put_93 rfl rfl ?_
            refine v_iconst (v := 4) dX11_put_94 (by decide) ?_
            refine u_callV [.int (4 : Int32)] mX11_met iX11_met lX11_80 dX11_put_95 sh_66 rfl rfl (by decide) ⟨rfl, rfl, id⟩ rfl rfl (Nat.le_of_ble_eq_true rfl) (Nat.le_of_ble_eq_true rfl) (v_X11_met (4 : Int32) _ _ h) ?_
            rintro _ τ32 ⟨r31, rfl, h⟩
            exact u_iret dX11_put_98 ⟨rfl, id⟩ h
      · have h := h.2 c8
        refine v_aload_n dX11_put_58 rfl rfl ?_
        refine v_iconst (v := 2) dX11_put_59 (by decide) ?_
        refine u_callV [.int (2 : Int32)] mX11_met iX11_met lX11_80 dX11_put_60 sh_66 rfl rfl (by decide) ⟨rfl, rfl, id⟩ rfl rfl (Nat.le_of_ble_eq_true rfl) (Nat.le_of_ble_eq_true rfl) (v_X11_met (2 : Int32) _ _ h) ?_
        rintro _ τ34 ⟨r33, rfl, h⟩
        exact u_iret dX11_put_63 ⟨rfl, id⟩ h
    · have h := h.2 c4
      refine v_aload_n dX11_put_25 rfl rfl ?_
      refine v_iload_n dX11_put_26 rfl rfl ?_
      refine u_callV [.int a3] mX11_isCylinder iX11_isCylinder lX11_87 dX11_put_27 sh_66 rfl rfl (by decide) ⟨rfl, rfl, id⟩ rfl rfl (Nat.le_of_ble_eq_true rfl) (Nat.le_of_ble_eq_true rfl) (v_X11_isCylinder a3 _ _ h) ?_
      rintro _ τ36 ⟨r35, rfl, h⟩
      refine v_if_ne (tgt := 36) dX11_put_30 (by decide) (fun c37 => ?_) (fun c37 => ?_)
      · have h := h.1 c37
        refine v_iload_n dX11_put_36 rfl rfl ?_
        refine v_i2l dX11_put_37 ?_
        refine v_lconst (v := 0) dX11_put_38 (by decide) ?_
        refine v_aload_n dX11_put_39 rfl rfl ?_
        refine u_getr fX11_7 dX11_put_40 sh_66 rfl (by decide) (rf_66_0 _) ?_
        refine v_sipush (v := 4212) dX11_put_43 (by decide) ?_
        refine v_iload_n dX11_put_46 rfl rfl ?_
        refine v_iadd dX11_put_47 ?_
        obtain ⟨j38, e_j38, l_j38, h⟩ := h
        refine u_iald dX11_put_48 sh_67 (by decide) (by decide) e_j38 l_j38 ?_
        refine v_iconst (v := 1) dX11_put_49 (by decide) ?_
        refine v_isub dX11_put_50 ?_
        refine v_i2l dX11_put_51 ?_
        refine u_callS [.long ((a2).toInt64), .long (0 : Int64), .long ((((q_i τ36 67 j38) - (1 : Int32))).toInt64)] mX11_in sX11_in lX11_67 dX11_put_52 ⟨rfl, rfl, id⟩ rfl rfl (Nat.le_of_ble_eq_true rfl) (Nat.le_of_ble_eq_true rfl) (v_X11_in ((a2).toInt64) (0 : Int64) ((((q_i τ36 67 j38) - (1 : Int32))).toInt64) _ _ h) ?_
        rintro _ τ40 ⟨r39, rfl, h⟩
        refine v_if_ne (tgt := 64) dX11_put_55 (by decide) (fun c41 => ?_) (fun c41 => ?_)
        · have h := h.1 c41
          refine v_iload_n dX11_put_64 rfl rfl ?_
          refine v_iconst (v := -1) dX11_put_65 (by decide) ?_
          refine v_icmp_eq (tgt := 99) dX11_put_66 (by decide) (fun c42 => ?_) (fun c42 => ?_)
          · have h := h.1 c42
            refine v_aload_n dX11_put_99 rfl rfl ?_
            refine u_callV [] mX11_change iX11_change lX11_71 dX11_put_100 sh_66 rfl rfl (by decide) ⟨rfl, rfl, id⟩ rfl rfl (Nat.le_of_ble_eq_true rfl) (Nat.le_of_ble_eq_true rfl) (v_X11_change  _ _ h) ?_
            rintro _ τ44 ⟨rfl, h⟩
            refine v_aload_n dX11_put_103 rfl rfl ?_
            refine u_getr fX11_7 dX11_put_104 sh_66 rfl (by decide) (rf_66_0 _) ?_
            refine v_sipush (v := 4224) dX11_put_107 (by decide) ?_
            refine v_bipush (v := 20) dX11_put_110 (by decide) ?_
            refine v_iload_n dX11_put_112 rfl rfl ?_
            refine v_imul dX11_put_113 ?_
            refine v_iadd dX11_put_114 ?_
            refine v_iload_n dX11_put_115 rfl rfl ?_
            refine v_iadd dX11_put_116 ?_
            obtain ⟨j45, e_j45, l_j45, h⟩ := h
            refine u_iald dX11_put_117 sh_67 (by decide) (by decide) e_j45 l_j45 ?_
            refine v_topi (fun v46 e_v46 => ?_)
            have h := h v46 e_v46
            refine v_istore dX11_put_118 (by decide) rfl ?_
            refine v_ls (ls2 := [some (.ref 66), some (.int a1), some (.int a2), some (.int a3), some (.int v46)]) rfl ?_
            refine v_aload_n dX11_put_120 rfl rfl ?_
            refine u_getr fX11_7 dX11_put_121 sh_66 rfl (by decide) (rf_66_0 _) ?_
            refine v_sipush (v := 4224) dX11_put_124 (by decide) ?_
            refine v_bipush (v := 20) dX11_put_127 (by decide) ?_
            refine v_iload_n dX11_put_129 rfl rfl ?_
            refine v_imul dX11_put_130 ?_
            refine v_iadd dX11_put_131 ?_
            refine v_iload_n dX11_put_132 rfl rfl ?_
            refine v_iadd dX11_put_133 ?_
            refine v_iload_n dX11_put_134 rfl rfl ?_
            obtain ⟨j47, e_j47, l_j47, h⟩ := h
            refine u_iast dX11_put_135 sh_67 (by decide) (by decide) e_j47 l_j47 (fun τ48 e_τ48 => ?_)
            have h := h τ48 e_τ48
            refine v_aload_n dX11_put_136 rfl rfl ?_
            refine v_iload dX11_put_137 rfl ?_
            refine u_callV [.int v46] mX11_well iX11_well lX11_74 dX11_put_139 sh_66 rfl rfl (by decide) ⟨rfl, rfl, id⟩ rfl rfl (Nat.le_of_ble_eq_true rfl) (Nat.le_of_ble_eq_true rfl) (v_X11_well v46 _ _ h) ?_
            rintro _ τ50 ⟨r49, rfl, h⟩
            exact u_iret dX11_put_142 ⟨rfl, id⟩ h
          · have h := h.2 c42
            refine v_aload_n dX11_put_69 rfl rfl ?_
            refine u_getr fX11_7 dX11_put_70 sh_66 rfl (by decide) (rf_66_0 _) ?_
            refine v_iconst (v := 0) dX11_put_73 (by decide) ?_
            refine v_iload_n dX11_put_74 rfl rfl ?_
            refine v_iadd dX11_put_75 ?_
            obtain ⟨j51, e_j51, l_j51, h⟩ := h
            refine u_iald dX11_put_76 sh_67 (by decide) (by decide) e_j51 l_j51 ?_
            refine v_aload_n dX11_put_77 rfl rfl ?_
            refine u_getr fX11_7 dX11_put_78 sh_66 rfl (by decide) (rf_66_0 _) ?_
            refine v_sipush (v := 4200) dX11_put_81 (by decide) ?_
            refine v_iload_n dX11_put_84 rfl rfl ?_
            refine v_iadd dX11_put_85 ?_
            obtain ⟨j52, e_j52, l_j52, h⟩ := h
            refine u_iald dX11_put_86 sh_67 (by decide) (by decide) e_j52 l_j52 ?_
            refine u_callS [.int (q_i τ40 67 j51), .int (q_i τ40 67 j52)] mX11_is sX11_is lX11_143 dX11_put_87 ⟨rfl, rfl, id⟩ rfl rfl (Nat.le_of_ble_eq_true rfl) (Nat.le_of_ble_eq_true rfl) (v_X11_is (q_i τ40 67 j51) (q_i τ40 67 j52) _ _ h) ?_
            rintro _ τ54 ⟨r53, rfl, h⟩
            refine v_if_ne (tgt := 99) dX11_put_90 (by decide) (fun c55 => ?_) (fun c55 => ?_)
            · have h := h.1 c55
              refine v_aload_n dX11_put_99 rfl rfl ?_
              refine u_callV [] mX11_change iX11_change lX11_71 dX11_put_100 sh_66 rfl rfl (by decide) ⟨rfl, rfl, id⟩ rfl rfl (Nat.le_of_ble_eq_true rfl) (Nat.le_of_ble_eq_true rfl) (v_X11_change  _ _ h) ?_
              rintro _ τ57 ⟨rfl, h⟩
              refine v_aload_n dX11_put_103 rfl rfl ?_
              refine u_getr fX11_7 dX11_put_104 sh_66 rfl (by decide) (rf_66_0 _) ?_
              refine v_sipush (v := 4224) dX11_put_107 (by decide) ?_
              refine v_bipush (v := 20) dX11_put_110 (by decide) ?_
              refine v_iload_n dX11_put_112 rfl rfl ?_
              refine v_imul dX11_put_113 ?_
              refine v_iadd dX11_put_114 ?_
              refine v_iload_n dX11_put_115 rfl rfl ?_
              refine v_iadd dX11_put_116 ?_
              obtain ⟨j58, e_j58, l_j58, h⟩ := h
              refine u_iald dX11_put_117 sh_67 (by decide) (by decide) e_j58 l_j58 ?_
              refine v_topi (fun v59 e_v59 => ?_)
              have h := h v59 e_v59
              refine v_istore dX11_put_118 (by decide) rfl ?_
              refine v_ls (ls2 := [some (.ref 66), some (.int a1), some (.int a2), some (.int a3), some (.int v59)]) rfl ?_
              refine v_aload_n dX11_put_120 rfl rfl ?_
              refine u_getr fX11_7 dX11_put_121 sh_66 rfl (by decide) (rf_66_0 _) ?_
              refine v_sipush (v := 4224) dX11_put_124 (by decide) ?_
              refine v_bipush (v := 20) dX11_put_127 (by decide) ?_
              refine v_iload_n dX11_put_129 rfl rfl ?_
              refine v_imul dX11_put_130 ?_
              refine v_iadd dX11_put_131 ?_
              refine v_iload_n dX11_put_132 rfl rfl ?_
              refine v_iadd dX11_put_133 ?_
              refine v_iload_n dX11_put_134 rfl rfl ?_
              obtain ⟨j60, e_j60, l_j60, h⟩ := h
              refine u_iast dX11_put_135 sh_67 (by decide) (by decide) e_j60 l_j60 (fun τ61 e_τ61 => ?_)
              have h := h τ61 e_τ61
              refine v_aload_n dX11_put_136 rfl rfl ?_
              refine v_iload dX11_put_137 rfl ?_
              refine u_callV [.int v59] mX11_well iX11_well lX11_74 dX11_put_139 sh_66 rfl rfl (by decide) ⟨rfl, rfl, id⟩ rfl rfl (Nat.le_of_ble_eq_true rfl) (Nat.le_of_ble_eq_true rfl) (v_X11_well v59 _ _ h) ?_
              rintro _ τ63 ⟨r62, rfl, h⟩
              exact u_iret dX11_put_142 ⟨rfl, id⟩ h
            · have h := h.2 c55
              refine v_aload_n dX11_put_93 rfl rfl ?_
              refine v_iconst (v := 4) dX11_put_94 (by decide) ?_
              refine u_callV [.int (4 : Int32)] mX11_met iX11_met lX11_80 dX11_put_95 sh_66 rfl rfl (by decide) ⟨rfl, rfl, id⟩ rfl rfl (Nat.le_of_ble_eq_true rfl) (Nat.le_of_ble_eq_true rfl) (v_X11_met (4 : Int32) _ _ h) ?_
              rintro _ τ65 ⟨r64, rfl, h⟩
              exact u_iret dX11_put_98 ⟨rfl, id⟩ h
        · have h := h.2 c41
          refine v_aload_n dX11_put_58 rfl rfl ?_
          refine v_iconst (v := 2) dX11_put_59 (by decide) ?_
          refine u_callV [.int (2 : Int32)] mX11_met iX11_met lX11_80 dX11_put_60 sh_66 rfl rfl (by decide) ⟨rfl, rfl, id⟩ rfl rfl (Nat.le_of_ble_eq_true rfl) (Nat.le_of_ble_eq_true rfl) (v_X11_met (2 : Int32) _ _ h) ?_
          rintro _ τ67 ⟨r66, rfl, h⟩
          exact u_iret dX11_put_63 ⟨rfl, id⟩ h
      · have h := h.2 c37
        refine v_bipush (v := -2) dX11_put_33 (by decide) ?_
        exact u_iret dX11_put_35 ⟨rfl, id⟩ h
def T_X11_inside (a1 : Int32) (a2 : Int32) (τ : kT) (post : Int32 → kT → Prop) : Prop := (T_X11_in ((a1).toInt64) (0 : Int64) ((((q_i τ 67 8524) - (1 : Int32))).toInt64) τ (fun r1 τ2 => ((¬ r1 = 0 → (∃ j4 : Nat, ((4212 : Int32) + a1) = nI j4 ∧ j4 < 8530 ∧ (T_X11_in ((a2).toInt64) (0 : Int64) ((((q_i τ2 67 j4) - (1 : Int32))).toInt64) τ2 (fun r5 τ6 => ((r5 = 0 → (T_X11_met (2 : Int32) τ6 (fun r8 τ9 => post r8 τ9))) ∧ (¬ r5 = 0 → (∃ j10 : Nat, (((4224 : Int32) + ((20 : Int32) * a1)) + a2) = nI j10 ∧ j10 < 8530 ∧ (T_X11_well (q_i τ6 67 j10) τ6 (fun r11 τ12 => post r11 τ12))))))))) ∧ (r1 = 0 → post (-2 : Int32) τ2))))
set_option maxRecDepth 100000 in
set_option maxHeartbeats 4000000 in
theorem v_X11_inside {d : Nat}  (a1 : Int32) (a2 : Int32) (τ : kT) (post : Int32 → kT → Prop) (h : T_X11_inside  a1 a2 τ post) : U yX11_inside cX11_inside 3 (some .int) (d + 1) kE0 0 [some (.ref 66), some (.int a1), some (.int a2)] [] τ (k_pi post) := by
  unfold T_X11_inside at h
  refine v_iload_n dX11_inside_0 rfl rfl ?_
  refine v_i2l dX11_inside_1 ?_
  refine v_lconst (v := 0) dX11_inside_2 (by decide) ?_
  refine v_aload_n dX11_inside_3 rfl rfl ?_
  refine u_getr fX11_7 dX11_inside_4 sh_66 rfl (by decide) (rf_66_0 _) ?_
  refine v_sipush (v := 8524) dX11_inside_7 (by decide) ?_
  refine u_iald dX11_inside_10 sh_67 (by decide) (by decide) rfl (by decide) ?_
  refine v_iconst (v := 1) dX11_inside_11 (by decide) ?_
  refine v_isub dX11_inside_12 ?_
  refine v_i2l dX11_inside_13 ?_
  refine u_callS [.long ((a1).toInt64), .long (0 : Int64), .long ((((q_i τ 67 8524) - (1 : Int32))).toInt64)] mX11_in sX11_in lX11_67 dX11_inside_14 ⟨rfl, rfl, id⟩ rfl rfl (Nat.le_of_ble_eq_true rfl) (Nat.le_of_ble_eq_true rfl) (v_X11_in ((a1).toInt64) (0 : Int64) ((((q_i τ 67 8524) - (1 : Int32))).toInt64) _ _ h) ?_
  rintro _ τ2 ⟨r1, rfl, h⟩
  refine v_if_ne (tgt := 23) dX11_inside_17 (by decide) (fun c3 => ?_) (fun c3 => ?_)
  · have h := h.1 c3
    refine v_iload_n dX11_inside_23 rfl rfl ?_
    refine v_i2l dX11_inside_24 ?_
    refine v_lconst (v := 0) dX11_inside_25 (by decide) ?_
    refine v_aload_n dX11_inside_26 rfl rfl ?_
    refine u_getr fX11_7 dX11_inside_27 sh_66 rfl (by decide) (rf_66_0 _) ?_
    refine v_sipush (v := 4212) dX11_inside_30 (by decide) ?_
    refine v_iload_n dX11_inside_33 rfl rfl ?_
    refine v_iadd dX11_inside_34 ?_
    obtain ⟨j4, e_j4, l_j4, h⟩ := h
    refine u_iald dX11_inside_35 sh_67 (by decide) (by decide) e_j4 l_j4 ?_
    refine v_iconst (v := 1) dX11_inside_36 (by decide) ?_
    refine v_isub dX11_inside_37 ?_
    refine v_i2l dX11_inside_38 ?_
    refine u_callS [.long ((a2).toInt64), .long (0 : Int64), .long ((((q_i τ2 67 j4) - (1 : Int32))).toInt64)] mX11_in sX11_in lX11_67 dX11_inside_39 ⟨rfl, rfl, id⟩ rfl rfl (Nat.le_of_ble_eq_true rfl) (Nat.le_of_ble_eq_true rfl) (v_X11_in ((a2).toInt64) (0 : Int64) ((((q_i τ2 67 j4) - (1 : Int32))).toInt64) _ _ h) ?_
    rintro _ τ6 ⟨r5, rfl, h⟩
    refine v_if_eq (tgt := 67) dX11_inside_42 (by decide) (fun c7 => ?_) (fun c7 => ?_)
    · have h := h.1 c7
      refine v_aload_n dX11_inside_67 rfl rfl ?_
      refine v_iconst (v := 2) dX11_inside_68 (by decide) ?_
      refine u_callV [.int (2 : Int32)] mX11_met iX11_met lX11_80 dX11_inside_69 sh_66 rfl rfl (by decide) ⟨rfl, rfl, id⟩ rfl rfl (Nat.le_of_ble_eq_true rfl) (Nat.le_of_ble_eq_true rfl) (v_X11_met (2 : Int32) _ _ h) ?_
      rintro _ τ9 ⟨r8, rfl, h⟩
      exact u_iret dX11_inside_72 ⟨rfl, id⟩ h
    · have h := h.2 c7
      refine v_aload_n dX11_inside_45 rfl rfl ?_
      refine v_aload_n dX11_inside_46 rfl rfl ?_
      refine u_getr fX11_7 dX11_inside_47 sh_66 rfl (by decide) (rf_66_0 _) ?_
      refine v_sipush (v := 4224) dX11_inside_50 (by decide) ?_
      refine v_bipush (v := 20) dX11_inside_53 (by decide) ?_
      refine v_iload_n dX11_inside_55 rfl rfl ?_
      refine v_imul dX11_inside_56 ?_
      refine v_iadd dX11_inside_57 ?_
      refine v_iload_n dX11_inside_58 rfl rfl ?_
      refine v_iadd dX11_inside_59 ?_
      obtain ⟨j10, e_j10, l_j10, h⟩ := h
      refine u_iald dX11_inside_60 sh_67 (by decide) (by decide) e_j10 l_j10 ?_
      refine u_callV [.int (q_i τ6 67 j10)] mX11_well iX11_well lX11_74 dX11_inside_61 sh_66 rfl rfl (by decide) ⟨rfl, rfl, id⟩ rfl rfl (Nat.le_of_ble_eq_true rfl) (Nat.le_of_ble_eq_true rfl) (v_X11_well (q_i τ6 67 j10) _ _ h) ?_
      rintro _ τ12 ⟨r11, rfl, h⟩
      refine v_goto (tgt := 72) dX11_inside_64 (by decide) ?_
      exact u_iret dX11_inside_72 ⟨rfl, id⟩ h
  · have h := h.2 c3
    refine v_bipush (v := -2) dX11_inside_20 (by decide) ?_
    exact u_iret dX11_inside_22 ⟨rfl, id⟩ h
def L_X11_door_46  (f1 : Int32) (K : Int32 → kT → Prop) (post : Int32 → kT → Prop) : Nat → Int32 → kT → Prop
  | 0, _, _ => False
  | n + 1, x2, τ => (((100 : Int32) ≤ x2 → K x2 τ) ∧ (¬ (100 : Int32) ≤ x2 → (∃ j9 : Nat, (((4504 : Int32) + ((40 : Int32) * x2)) + f1) = nI j9 ∧ j9 < 8530 ∧ (∀ τ10 : kT, τ10 = q_si τ 67 j9 (0 : Int32) → (∀ v11 : Int32, v11 = x2 + (1 : Int32) → L_X11_door_46 f1 K post n v11 τ10)))))
def T_X11_door  (τ : kT) (post : Int32 → kT → Prop) : Prop := (∀ v1 : Int32, v1 = (q_i τ 67 8525) → ((¬ v1 = (40 : Int32) → (T_X11_change  τ (fun τ4 => (∀ τ5 : kT, τ5 = q_si τ4 67 8525 (v1 + (1 : Int32)) → (∃ j6 : Nat, ((4464 : Int32) + v1) = nI j6 ∧ j6 < 8530 ∧ (∀ τ7 : kT, τ7 = q_si τ5 67 j6 (-1 : Int32) → (∃ m12 : Nat, L_X11_door_46  v1 (fun v13 τ14 => post v1 τ14) post m12 (0 : Int32) τ7))))))) ∧ (v1 = (40 : Int32) → post (-4 : Int32) τ)))
set_option maxRecDepth 100000 in
set_option maxHeartbeats 4000000 in
theorem l_X11_door_46 {d : Nat}  (f1 : Int32) {K : Int32 → kT → Prop} {post : Int32 → kT → Prop} (hK : ∀ (x2 : Int32) (τ : kT), K x2 τ → U yX11_door cX11_door 3 (some .int) (d + 1) kE0 74 [some (.ref 66), some (.int f1), some (.int x2)] [] τ (k_pi post)) : ∀ (n : Nat) (x2 : Int32) (τ : kT), L_X11_door_46  f1 K post n x2 τ → U yX11_door cX11_door 3 (some .int) (d + 1) kE0 46 [some (.ref 66), some (.int f1), some (.int x2)] [] τ (k_pi post) := by
  intro n
  induction n with
  | zero => intro x2 τ h; exact h.elim
  | succ n ih =>
    intro x2 τ h
    unfold L_X11_door_46 at h
    refine v_iload_n dX11_door_46 rfl rfl ?_
    refine v_bipush (v := 100) dX11_door_47 (by decide) ?_
    refine v_icmp_ge (tgt := 74) dX11_door_49 (by decide) (fun c8 => ?_) (fun c8 => ?_)
    · have h := h.1 c8
      exact hK x2 _ h
    · have h := h.2 c8
      refine v_aload_n dX11_door_52 rfl rfl ?_
      refine u_getr fX11_7 dX11_door_53 sh_66 rfl (by decide) (rf_66_0 _) ?_
      refine v_sipush (v := 4504) dX11_door_56 (by decide) ?_
      refine v_bipush (v := 40) dX11_door_59 (by decide) ?_
      refine v_iload_n dX11_door_61 rfl rfl ?_
      refine v_imul dX11_door_62 ?_
      refine v_iadd dX11_door_63 ?_
      refine v_iload_n dX11_door_64 rfl rfl ?_
      refine v_iadd dX11_door_65 ?_
      refine v_iconst (v := 0) dX11_door_66 (by decide) ?_
      obtain ⟨j9, e_j9, l_j9, h⟩ := h
      refine u_iast dX11_door_67 sh_67 (by decide) (by decide) e_j9 l_j9 (fun τ10 e_τ10 => ?_)
      have h := h τ10 e_τ10
      obtain ⟨v11, e_v11⟩ : ∃ z : Int32, z = x2 + (1 : Int32) := ⟨_, rfl⟩
      have h := h v11 e_v11
      refine v_iinc (v := v11) dX11_door_68 rfl (by rw [e_v11]; rfl) (by decide) rfl ?_
      refine v_ls (ls2 := [some (.ref 66), some (.int f1), some (.int v11)]) rfl ?_
      refine v_goto (tgt := 46) dX11_door_71 (by decide) ?_
      exact ih v11 _ h
set_option maxRecDepth 100000 in
set_option maxHeartbeats 4000000 in
theorem v_X11_door {d : Nat}   (τ : kT) (post : Int32 → kT → Prop) (h : T_X11_door   τ post) : U yX11_door cX11_door 3 (some .int) (d + 1) kE0 0 [some (.ref 66), none, none] [] τ (k_pi post) := by
  unfold T_X11_door at h
  refine v_aload_n dX11_door_0 rfl rfl ?_
  refine u_getr fX11_7 dX11_door_1 sh_66 rfl (by decide) (rf_66_0 _) ?_
  refine v_sipush (v := 8525) dX11_door_4 (by decide) ?_
  refine u_iald dX11_door_7 sh_67 (by decide) (by decide) rfl (by decide) ?_
  refine v_topi (fun v1 e_v1 => ?_)
  have h := h v1 e_v1
  refine v_istore_n dX11_door_8 rfl (by decide) rfl ?_
  refine v_ls (ls2 := [some (.ref 66), some (.int v1), none]) rfl ?_
  refine v_iload_n dX11_door_9 rfl rfl ?_
  refine v_bipush (v := 40) dX11_door_10 (by decide) ?_
  refine v_icmp_ne (tgt := 18) dX11_door_12 (by decide) (fun c2 => ?_) (fun c2 => ?_)
  · have h := h.1 c2
    refine v_aload_n dX11_door_18 rfl rfl ?_
    refine u_callV [] mX11_change iX11_change lX11_71 dX11_door_19 sh_66 rfl rfl (by decide) ⟨rfl, rfl, id⟩ rfl rfl (Nat.le_of_ble_eq_true rfl) (Nat.le_of_ble_eq_true rfl) (v_X11_change  _ _ h) ?_
    rintro _ τ4 ⟨rfl, h⟩
    refine v_aload_n dX11_door_22 rfl rfl ?_
    refine u_getr fX11_7 dX11_door_23 sh_66 rfl (by decide) (rf_66_0 _) ?_
    refine v_sipush (v := 8525) dX11_door_26 (by decide) ?_
    refine v_iload_n dX11_door_29 rfl rfl ?_
    refine v_iconst (v := 1) dX11_door_30 (by decide) ?_
    refine v_iadd dX11_door_31 ?_
    refine u_iast dX11_door_32 sh_67 (by decide) (by decide) rfl (by decide) (fun τ5 e_τ5 => ?_)
    have h := h τ5 e_τ5
    refine v_aload_n dX11_door_33 rfl rfl ?_
    refine u_getr fX11_7 dX11_door_34 sh_66 rfl (by decide) (rf_66_0 _) ?_
    refine v_sipush (v := 4464) dX11_door_37 (by decide) ?_
    refine v_iload_n dX11_door_40 rfl rfl ?_
    refine v_iadd dX11_door_41 ?_
    refine v_iconst (v := -1) dX11_door_42 (by decide) ?_
    obtain ⟨j6, e_j6, l_j6, h⟩ := h
    refine u_iast dX11_door_43 sh_67 (by decide) (by decide) e_j6 l_j6 (fun τ7 e_τ7 => ?_)
    have h := h τ7 e_τ7
    refine v_iconst (v := 0) dX11_door_44 (by decide) ?_
    refine v_istore_n dX11_door_45 rfl (by decide) rfl ?_
    refine v_ls (ls2 := [some (.ref 66), some (.int v1), some (.int (0 : Int32))]) rfl ?_
    obtain ⟨m12, h⟩ := h
    refine l_X11_door_46  v1 (fun v13 τ14 h => ?_) m12 (0 : Int32) _ h
    refine v_iload_n dX11_door_74 rfl rfl ?_
    exact u_iret dX11_door_75 ⟨rfl, id⟩ h
  · have h := h.2 c2
    refine v_bipush (v := -4) dX11_door_15 (by decide) ?_
    exact u_iret dX11_door_17 ⟨rfl, id⟩ h
def T_X11_fit (a1 : Int32) (a2 : Int32) (τ : kT) (post : Int32 → kT → Prop) : Prop := (T_X11_isDoor a1 τ (fun r1 τ2 => ((r1 = 0 → post (-2 : Int32) τ2) ∧ (¬ r1 = 0 → ((a2 = (-1 : Int32) → (T_X11_change  τ2 (fun τ6 => (∃ j7 : Nat, ((4464 : Int32) + a1) = nI j7 ∧ j7 < 8530 ∧ (∀ v8 : Int32, v8 = (q_i τ6 67 j7) → (∃ j9 : Nat, ((4464 : Int32) + a1) = nI j9 ∧ j9 < 8530 ∧ (∀ τ10 : kT, τ10 = q_si τ6 67 j9 a2 → post v8 τ10))))))) ∧ (¬ a2 = (-1 : Int32) → (T_X11_isCylinder a2 τ2 (fun r11 τ12 => ((¬ r11 = 0 → (T_X11_change  τ12 (fun τ15 => (∃ j16 : Nat, ((4464 : Int32) + a1) = nI j16 ∧ j16 < 8530 ∧ (∀ v17 : Int32, v17 = (q_i τ15 67 j16) → (∃ j18 : Nat, ((4464 : Int32) + a1) = nI j18 ∧ j18 < 8530 ∧ (∀ τ19 : kT, τ19 = q_si τ15 67 j18 a2 → post v17 τ19))))))) ∧ (r11 = 0 → post (-2 : Int32) τ12))))))))))
set_option maxRecDepth 100000 in
set_option maxHeartbeats 4000000 in
theorem v_X11_fit {d : Nat}  (a1 : Int32) (a2 : Int32) (τ : kT) (post : Int32 → kT → Prop) (h : T_X11_fit  a1 a2 τ post) : U yX11_fit cX11_fit 4 (some .int) (d + 2) kE0 0 [some (.ref 66), some (.int a1), some (.int a2), none] [] τ (k_pi post) := by
  unfold T_X11_fit at h
  refine v_aload_n dX11_fit_0 rfl rfl ?_
  refine v_iload_n dX11_fit_1 rfl rfl ?_
  refine u_callV [.int a1] mX11_isDoor iX11_isDoor lX11_138 dX11_fit_2 sh_66 rfl rfl (by decide) ⟨rfl, rfl, id⟩ rfl rfl (Nat.le_of_ble_eq_true rfl) (Nat.le_of_ble_eq_true rfl) (v_X11_isDoor a1 _ _ h) ?_
  rintro _ τ2 ⟨r1, rfl, h⟩
  refine v_if_eq (tgt := 21) dX11_fit_5 (by decide) (fun c3 => ?_) (fun c3 => ?_)
  · have h := h.1 c3
    refine v_bipush (v := -2) dX11_fit_21 (by decide) ?_
    exact u_iret dX11_fit_23 ⟨rfl, id⟩ h
  · have h := h.2 c3
    refine v_iload_n dX11_fit_8 rfl rfl ?_
    refine v_iconst (v := -1) dX11_fit_9 (by decide) ?_
    refine v_icmp_eq (tgt := 24) dX11_fit_10 (by decide) (fun c4 => ?_) (fun c4 => ?_)
    · have h := h.1 c4
      refine v_aload_n dX11_fit_24 rfl rfl ?_
      refine u_callV [] mX11_change iX11_change lX11_71 dX11_fit_25 sh_66 rfl rfl (by decide) ⟨rfl, rfl, id⟩ rfl rfl (Nat.le_of_ble_eq_true rfl) (Nat.le_of_ble_eq_true rfl) (v_X11_change  _ _ h) ?_
      rintro _ τ6 ⟨rfl, h⟩
      refine v_aload_n dX11_fit_28 rfl rfl ?_
      refine u_getr fX11_7 dX11_fit_29 sh_66 rfl (by decide) (rf_66_0 _) ?_
      refine v_sipush (v := 4464) dX11_fit_32 (by decide) ?_
      refine v_iload_n dX11_fit_35 rfl rfl ?_
      refine v_iadd dX11_fit_36 ?_
      obtain ⟨j7, e_j7, l_j7, h⟩ := h
      refine u_iald dX11_fit_37 sh_67 (by decide) (by decide) e_j7 l_j7 ?_
      refine v_topi (fun v8 e_v8 => ?_)
      have h := h v8 e_v8
      refine v_istore_n dX11_fit_38 rfl (by decide) rfl ?_
      refine v_ls (ls2 := [some (.ref 66), some (.int a1), some (.int a2), some (.int v8)]) rfl ?_
      refine v_aload_n dX11_fit_39 rfl rfl ?_
      refine u_getr fX11_7 dX11_fit_40 sh_66 rfl (by decide) (rf_66_0 _) ?_
      refine v_sipush (v := 4464) dX11_fit_43 (by decide) ?_
      refine v_iload_n dX11_fit_46 rfl rfl ?_
      refine v_iadd dX11_fit_47 ?_
      refine v_iload_n dX11_fit_48 rfl rfl ?_
      obtain ⟨j9, e_j9, l_j9, h⟩ := h
      refine u_iast dX11_fit_49 sh_67 (by decide) (by decide) e_j9 l_j9 (fun τ10 e_τ10 => ?_)
      have h := h τ10 e_τ10
      refine v_iload_n dX11_fit_50 rfl rfl ?_
      exact u_iret dX11_fit_51 ⟨rfl, id⟩ h
    · have h := h.2 c4
      refine v_aload_n dX11_fit_13 rfl rfl ?_
      refine v_iload_n dX11_fit_14 rfl rfl ?_
      refine u_callV [.int a2] mX11_isCylinder iX11_isCylinder lX11_87 dX11_fit_15 sh_66 rfl rfl (by decide) ⟨rfl, rfl, id⟩ rfl rfl (Nat.le_of_ble_eq_true rfl) (Nat.le_of_ble_eq_true rfl) (v_X11_isCylinder a2 _ _ h) ?_
      rintro _ τ12 ⟨r11, rfl, h⟩
      refine v_if_ne (tgt := 24) dX11_fit_18 (by decide) (fun c13 => ?_) (fun c13 => ?_)
      · have h := h.1 c13
        refine v_aload_n dX11_fit_24 rfl rfl ?_
        refine u_callV [] mX11_change iX11_change lX11_71 dX11_fit_25 sh_66 rfl rfl (by decide) ⟨rfl, rfl, id⟩ rfl rfl (Nat.le_of_ble_eq_true rfl) (Nat.le_of_ble_eq_true rfl) (v_X11_change  _ _ h) ?_
        rintro _ τ15 ⟨rfl, h⟩
        refine v_aload_n dX11_fit_28 rfl rfl ?_
        refine u_getr fX11_7 dX11_fit_29 sh_66 rfl (by decide) (rf_66_0 _) ?_
        refine v_sipush (v := 4464) dX11_fit_32 (by decide) ?_
        refine v_iload_n dX11_fit_35 rfl rfl ?_
        refine v_iadd dX11_fit_36 ?_
        obtain ⟨j16, e_j16, l_j16, h⟩ := h
        refine u_iald dX11_fit_37 sh_67 (by decide) (by decide) e_j16 l_j16 ?_
        refine v_topi (fun v17 e_v17 => ?_)
        have h := h v17 e_v17
        refine v_istore_n dX11_fit_38 rfl (by decide) rfl ?_
        refine v_ls (ls2 := [some (.ref 66), some (.int a1), some (.int a2), some (.int v17)]) rfl ?_
        refine v_aload_n dX11_fit_39 rfl rfl ?_
        refine u_getr fX11_7 dX11_fit_40 sh_66 rfl (by decide) (rf_66_0 _) ?_
        refine v_sipush (v := 4464) dX11_fit_43 (by decide) ?_
        refine v_iload_n dX11_fit_46 rfl rfl ?_
        refine v_iadd dX11_fit_47 ?_
        refine v_iload_n dX11_fit_48 rfl rfl ?_
        obtain ⟨j18, e_j18, l_j18, h⟩ := h
        refine u_iast dX11_fit_49 sh_67 (by decide) (by decide) e_j18 l_j18 (fun τ19 e_τ19 => ?_)
        have h := h τ19 e_τ19
        refine v_iload_n dX11_fit_50 rfl rfl ?_
        exact u_iret dX11_fit_51 ⟨rfl, id⟩ h
      · have h := h.2 c13
        refine v_bipush (v := -2) dX11_fit_21 (by decide) ?_
        exact u_iret dX11_fit_23 ⟨rfl, id⟩ h
def T_X11_person  (τ : kT) (post : Int32 → kT → Prop) : Prop := ((¬ (q_i τ 67 8526) = (40 : Int32) → (T_X11_change  τ (fun τ3 => (∀ τ4 : kT, τ4 = q_si τ3 67 8526 ((q_i τ3 67 8526) + (1 : Int32)) → post ((q_i τ4 67 8526) - (1 : Int32)) τ4)))) ∧ ((q_i τ 67 8526) = (40 : Int32) → post (-4 : Int32) τ))
set_option maxRecDepth 100000 in
set_option maxHeartbeats 4000000 in
theorem v_X11_person {d : Nat}   (τ : kT) (post : Int32 → kT → Prop) (h : T_X11_person   τ post) : U yX11_person cX11_person 1 (some .int) (d + 1) kE0 0 [some (.ref 66)] [] τ (k_pi post) := by
  unfold T_X11_person at h
  refine v_aload_n dX11_person_0 rfl rfl ?_
  refine u_getr fX11_7 dX11_person_1 sh_66 rfl (by decide) (rf_66_0 _) ?_
  refine v_sipush (v := 8526) dX11_person_4 (by decide) ?_
  refine u_iald dX11_person_7 sh_67 (by decide) (by decide) rfl (by decide) ?_
  refine v_bipush (v := 40) dX11_person_8 (by decide) ?_
  refine v_icmp_ne (tgt := 16) dX11_person_10 (by decide) (fun c1 => ?_) (fun c1 => ?_)
  · have h := h.1 c1
    refine v_aload_n dX11_person_16 rfl rfl ?_
    refine u_callV [] mX11_change iX11_change lX11_71 dX11_person_17 sh_66 rfl rfl (by decide) ⟨rfl, rfl, id⟩ rfl rfl (Nat.le_of_ble_eq_true rfl) (Nat.le_of_ble_eq_true rfl) (v_X11_change  _ _ h) ?_
    rintro _ τ3 ⟨rfl, h⟩
    refine v_aload_n dX11_person_20 rfl rfl ?_
    refine u_getr fX11_7 dX11_person_21 sh_66 rfl (by decide) (rf_66_0 _) ?_
    refine v_sipush (v := 8526) dX11_person_24 (by decide) ?_
    refine v_dup2 dX11_person_27 rfl rfl ?_
    refine u_iald dX11_person_28 sh_67 (by decide) (by decide) rfl (by decide) ?_
    refine v_iconst (v := 1) dX11_person_29 (by decide) ?_
    refine v_iadd dX11_person_30 ?_
    refine u_iast dX11_person_31 sh_67 (by decide) (by decide) rfl (by decide) (fun τ4 e_τ4 => ?_)
    have h := h τ4 e_τ4
    refine v_aload_n dX11_person_32 rfl rfl ?_
    refine u_getr fX11_7 dX11_person_33 sh_66 rfl (by decide) (rf_66_0 _) ?_
    refine v_sipush (v := 8526) dX11_person_36 (by decide) ?_
    refine u_iald dX11_person_39 sh_67 (by decide) (by decide) rfl (by decide) ?_
    refine v_iconst (v := 1) dX11_person_40 (by decide) ?_
    refine v_isub dX11_person_41 ?_
    exact u_iret dX11_person_42 ⟨rfl, id⟩ h
  · have h := h.2 c1
    refine v_bipush (v := -4) dX11_person_13 (by decide) ?_
    exact u_iret dX11_person_15 ⟨rfl, id⟩ h
def L_X11_lend_68  (f1 : Int32) (f2 : Int32) (K : Int32 → Int32 → kT → Prop) (post : Int32 → kT → Prop) : Nat → Int32 → Int32 → kT → Prop
  | 0, _, _, _ => False
  | n + 1, x3, x4, τ => (((q_i τ 67 8523) ≤ x4 → K x3 x4 τ) ∧ (¬ (q_i τ 67 8523) ≤ x4 → (∃ j14 : Nat, ((4100 : Int32) + x4) = nI j14 ∧ j14 < 8530 ∧ ((¬ (q_i τ 67 j14) = f2 → (∀ v16 : Int32, v16 = (x3 + (0 : Int32)) → (∀ v17 : Int32, v17 = x4 + (1 : Int32) → L_X11_lend_68 f1 f2 K post n v16 v17 τ))) ∧ ((q_i τ 67 j14) = f2 → (∀ v18 : Int32, v18 = (x3 + (1 : Int32)) → (∀ v19 : Int32, v19 = x4 + (1 : Int32) → L_X11_lend_68 f1 f2 K post n v18 v19 τ)))))))
def T_X11_lend (a1 : Int32) (a2 : Int32) (τ : kT) (post : Int32 → kT → Prop) : Prop := (T_X11_isKey a1 τ (fun r1 τ2 => ((r1 = 0 → post (-2 : Int32) τ2) ∧ (¬ r1 = 0 → (T_X11_in ((a2).toInt64) (0 : Int64) ((((q_i τ2 67 8526) - (1 : Int32))).toInt64) τ2 (fun r4 τ5 => ((¬ r4 = 0 → (∃ j7 : Nat, ((4100 : Int32) + a1) = nI j7 ∧ j7 < 8530 ∧ (((q_i τ5 67 j7) = (-1 : Int32) → (T_X11_change  τ5 (fun τ10 => (∃ j11 : Nat, ((4100 : Int32) + a1) = nI j11 ∧ j11 < 8530 ∧ (∀ τ12 : kT, τ12 = q_si τ10 67 j11 a2 → (∃ m20 : Nat, L_X11_lend_68  a1 a2 (fun v21 v22 τ23 => post v21 τ23) post m20 (0 : Int32) (0 : Int32) τ12)))))) ∧ (¬ (q_i τ5 67 j7) = (-1 : Int32) → post (-3 : Int32) τ5)))) ∧ (r4 = 0 → post (-2 : Int32) τ5))))))))
set_option maxRecDepth 100000 in
set_option maxHeartbeats 4000000 in
theorem l_X11_lend_68 {d : Nat}  (f1 : Int32) (f2 : Int32) {K : Int32 → Int32 → kT → Prop} {post : Int32 → kT → Prop} (hK : ∀ (x3 : Int32) (x4 : Int32) (τ : kT), K x3 x4 τ → U yX11_lend cX11_lend 5 (some .int) (d + 2) kE0 110 [some (.ref 66), some (.int f1), some (.int f2), some (.int x3), some (.int x4)] [] τ (k_pi post)) : ∀ (n : Nat) (x3 : Int32) (x4 : Int32) (τ : kT), L_X11_lend_68  f1 f2 K post n x3 x4 τ → U yX11_lend cX11_lend 5 (some .int) (d + 2) kE0 68 [some (.ref 66), some (.int f1), some (.int f2), some (.int x3), some (.int x4)] [] τ (k_pi post) := by
  intro n
  induction n with
  | zero => intro x3 x4 τ h; exact h.elim
  | succ n ih =>
    intro x3 x4 τ h
    unfold L_X11_lend_68 at h
    refine v_iload dX11_lend_68 rfl ?_
    refine v_aload_n dX11_lend_70 rfl rfl ?_
    refine u_getr fX11_7 dX11_lend_71 sh_66 rfl (by decide) (rf_66_0 _) ?_
    refine v_sipush (v := 8523) dX11_lend_74 (by decide) ?_
    refine u_iald dX11_lend_77 sh_67 (by decide) (by decide) rfl (by decide) ?_
    refine v_icmp_ge (tgt := 110) dX11_lend_78 (by decide) (fun c13 => ?_) (fun c13 => ?_)
    · have h := h.1 c13
      exact hK x3 x4 _ h
    · have h := h.2 c13
      refine v_iload_n dX11_lend_81 rfl rfl ?_
      refine v_aload_n dX11_lend_82 rfl rfl ?_
      refine u_getr fX11_7 dX11_lend_83 sh_66 rfl (by decide) (rf_66_0 _) ?_
      refine v_sipush (v := 4100) dX11_lend_86 (by decide) ?_
      refine v_iload dX11_lend_89 rfl ?_
      refine v_iadd dX11_lend_91 ?_
      obtain ⟨j14, e_j14, l_j14, h⟩ := h
      refine u_iald dX11_lend_92 sh_67 (by decide) (by decide) e_j14 l_j14 ?_
      refine v_iload_n dX11_lend_93 rfl rfl ?_
      refine v_icmp_ne (tgt := 101) dX11_lend_94 (by decide) (fun c15 => ?_) (fun c15 => ?_)
      · have h := h.1 c15
        refine v_iconst (v := 0) dX11_lend_101 (by decide) ?_
        refine v_iadd dX11_lend_102 ?_
        refine v_topi (fun v16 e_v16 => ?_)
        have h := h v16 e_v16
        refine v_istore_n dX11_lend_103 rfl (by decide) rfl ?_
        refine v_ls (ls2 := [some (.ref 66), some (.int f1), some (.int f2), some (.int v16), some (.int x4)]) rfl ?_
        obtain ⟨v17, e_v17⟩ : ∃ z : Int32, z = x4 + (1 : Int32) := ⟨_, rfl⟩
        have h := h v17 e_v17
        refine v_iinc (v := v17) dX11_lend_104 rfl (by rw [e_v17]; rfl) (by decide) rfl ?_
        refine v_ls (ls2 := [some (.ref 66), some (.int f1), some (.int f2), some (.int v16), some (.int v17)]) rfl ?_
        refine v_goto (tgt := 68) dX11_lend_107 (by decide) ?_
        exact ih v16 v17 _ h
      · have h := h.2 c15
        refine v_iconst (v := 1) dX11_lend_97 (by decide) ?_
        refine v_goto (tgt := 102) dX11_lend_98 (by decide) ?_
        refine v_iadd dX11_lend_102 ?_
        refine v_topi (fun v18 e_v18 => ?_)
        have h := h v18 e_v18
        refine v_istore_n dX11_lend_103 rfl (by decide) rfl ?_
        refine v_ls (ls2 := [some (.ref 66), some (.int f1), some (.int f2), some (.int v18), some (.int x4)]) rfl ?_
        obtain ⟨v19, e_v19⟩ : ∃ z : Int32, z = x4 + (1 : Int32) := ⟨_, rfl⟩
        have h := h v19 e_v19
        refine v_iinc (v := v19) dX11_lend_104 rfl (by rw [e_v19]; rfl) (by decide) rfl ?_
        refine v_ls (ls2 := [some (.ref 66), some (.int f1), some (.int f2), some (.int v18), some (.int v19)]) rfl ?_
        refine v_goto (tgt := 68) dX11_lend_107 (by decide) ?_
        exact ih v18 v19 _ h
set_option maxRecDepth 100000 in
set_option maxHeartbeats 4000000 in
theorem v_X11_lend {d : Nat}  (a1 : Int32) (a2 : Int32) (τ : kT) (post : Int32 → kT → Prop) (h : T_X11_lend  a1 a2 τ post) : U yX11_lend cX11_lend 5 (some .int) (d + 2) kE0 0 [some (.ref 66), some (.int a1), some (.int a2), none, none] [] τ (k_pi post) := by
  unfold T_X11_lend at h
  refine v_aload_n dX11_lend_0 rfl rfl ?_
  refine v_iload_n dX11_lend_1 rfl rfl ?_
  refine u_callV [.int a1] mX11_isKey iX11_isKey lX11_125 dX11_lend_2 sh_66 rfl rfl (by decide) ⟨rfl, rfl, id⟩ rfl rfl (Nat.le_of_ble_eq_true rfl) (Nat.le_of_ble_eq_true rfl) (v_X11_isKey a1 _ _ h) ?_
  rintro _ τ2 ⟨r1, rfl, h⟩
  refine v_if_eq (tgt := 28) dX11_lend_5 (by decide) (fun c3 => ?_) (fun c3 => ?_)
  · have h := h.1 c3
    refine v_bipush (v := -2) dX11_lend_28 (by decide) ?_
    exact u_iret dX11_lend_30 ⟨rfl, id⟩ h
  · have h := h.2 c3
    refine v_iload_n dX11_lend_8 rfl rfl ?_
    refine v_i2l dX11_lend_9 ?_
    refine v_lconst (v := 0) dX11_lend_10 (by decide) ?_
    refine v_aload_n dX11_lend_11 rfl rfl ?_
    refine u_getr fX11_7 dX11_lend_12 sh_66 rfl (by decide) (rf_66_0 _) ?_
    refine v_sipush (v := 8526) dX11_lend_15 (by decide) ?_
    refine u_iald dX11_lend_18 sh_67 (by decide) (by decide) rfl (by decide) ?_
    refine v_iconst (v := 1) dX11_lend_19 (by decide) ?_
    refine v_isub dX11_lend_20 ?_
    refine v_i2l dX11_lend_21 ?_
    refine u_callS [.long ((a2).toInt64), .long (0 : Int64), .long ((((q_i τ2 67 8526) - (1 : Int32))).toInt64)] mX11_in sX11_in lX11_67 dX11_lend_22 ⟨rfl, rfl, id⟩ rfl rfl (Nat.le_of_ble_eq_true rfl) (Nat.le_of_ble_eq_true rfl) (v_X11_in ((a2).toInt64) (0 : Int64) ((((q_i τ2 67 8526) - (1 : Int32))).toInt64) _ _ h) ?_
    rintro _ τ5 ⟨r4, rfl, h⟩
    refine v_if_ne (tgt := 31) dX11_lend_25 (by decide) (fun c6 => ?_) (fun c6 => ?_)
    · have h := h.1 c6
      refine v_aload_n dX11_lend_31 rfl rfl ?_
      refine u_getr fX11_7 dX11_lend_32 sh_66 rfl (by decide) (rf_66_0 _) ?_
      refine v_sipush (v := 4100) dX11_lend_35 (by decide) ?_
      refine v_iload_n dX11_lend_38 rfl rfl ?_
      refine v_iadd dX11_lend_39 ?_
      obtain ⟨j7, e_j7, l_j7, h⟩ := h
      refine u_iald dX11_lend_40 sh_67 (by decide) (by decide) e_j7 l_j7 ?_
      refine v_iconst (v := -1) dX11_lend_41 (by decide) ?_
      refine v_icmp_eq (tgt := 48) dX11_lend_42 (by decide) (fun c8 => ?_) (fun c8 => ?_)
      · have h := h.1 c8
        refine v_aload_n dX11_lend_48 rfl rfl ?_
        refine u_callV [] mX11_change iX11_change lX11_71 dX11_lend_49 sh_66 rfl rfl (by decide) ⟨rfl, rfl, id⟩ rfl rfl (Nat.le_of_ble_eq_true rfl) (Nat.le_of_ble_eq_true rfl) (v_X11_change  _ _ h) ?_
        rintro _ τ10 ⟨rfl, h⟩
        refine v_aload_n dX11_lend_52 rfl rfl ?_
        refine u_getr fX11_7 dX11_lend_53 sh_66 rfl (by decide) (rf_66_0 _) ?_
        refine v_sipush (v := 4100) dX11_lend_56 (by decide) ?_
        refine v_iload_n dX11_lend_59 rfl rfl ?_
        refine v_iadd dX11_lend_60 ?_
        refine v_iload_n dX11_lend_61 rfl rfl ?_
        obtain ⟨j11, e_j11, l_j11, h⟩ := h
        refine u_iast dX11_lend_62 sh_67 (by decide) (by decide) e_j11 l_j11 (fun τ12 e_τ12 => ?_)
        have h := h τ12 e_τ12
        refine v_iconst (v := 0) dX11_lend_63 (by decide) ?_
        refine v_istore_n dX11_lend_64 rfl (by decide) rfl ?_
        refine v_ls (ls2 := [some (.ref 66), some (.int a1), some (.int a2), some (.int (0 : Int32)), none]) rfl ?_
        refine v_iconst (v := 0) dX11_lend_65 (by decide) ?_
        refine v_istore dX11_lend_66 (by decide) rfl ?_
        refine v_ls (ls2 := [some (.ref 66), some (.int a1), some (.int a2), some (.int (0 : Int32)), some (.int (0 : Int32))]) rfl ?_
        obtain ⟨m20, h⟩ := h
        refine l_X11_lend_68  a1 a2 (fun v21 v22 τ23 h => ?_) m20 (0 : Int32) (0 : Int32) _ h
        refine v_iload_n dX11_lend_110 rfl rfl ?_
        exact u_iret dX11_lend_111 ⟨rfl, id⟩ h
      · have h := h.2 c8
        refine v_bipush (v := -3) dX11_lend_45 (by decide) ?_
        exact u_iret dX11_lend_47 ⟨rfl, id⟩ h
    · have h := h.2 c6
      refine v_bipush (v := -2) dX11_lend_28 (by decide) ?_
      exact u_iret dX11_lend_30 ⟨rfl, id⟩ h
def T_X11_bringBack (a1 : Int32) (τ : kT) (post : Int32 → kT → Prop) : Prop := (T_X11_isKey a1 τ (fun r1 τ2 => ((¬ r1 = 0 → (∃ j4 : Nat, ((4100 : Int32) + a1) = nI j4 ∧ j4 < 8530 ∧ (∀ v5 : Int32, v5 = (q_i τ2 67 j4) → ((0 ≤ v5 → (T_X11_change  τ2 (fun τ8 => (∃ j9 : Nat, ((4100 : Int32) + a1) = nI j9 ∧ j9 < 8530 ∧ (∀ τ10 : kT, τ10 = q_si τ8 67 j9 (-1 : Int32) → post v5 τ10))))) ∧ (¬ 0 ≤ v5 → post (-3 : Int32) τ2))))) ∧ (r1 = 0 → post (-2 : Int32) τ2))))
set_option maxRecDepth 100000 in
set_option maxHeartbeats 4000000 in
theorem v_X11_bringBack {d : Nat}  (a1 : Int32) (τ : kT) (post : Int32 → kT → Prop) (h : T_X11_bringBack  a1 τ post) : U yX11_bringBack cX11_bringBack 3 (some .int) (d + 2) kE0 0 [some (.ref 66), some (.int a1), none] [] τ (k_pi post) := by
  unfold T_X11_bringBack at h
  refine v_aload_n dX11_bringBack_0 rfl rfl ?_
  refine v_iload_n dX11_bringBack_1 rfl rfl ?_
  refine u_callV [.int a1] mX11_isKey iX11_isKey lX11_125 dX11_bringBack_2 sh_66 rfl rfl (by decide) ⟨rfl, rfl, id⟩ rfl rfl (Nat.le_of_ble_eq_true rfl) (Nat.le_of_ble_eq_true rfl) (v_X11_isKey a1 _ _ h) ?_
  rintro _ τ2 ⟨r1, rfl, h⟩
  refine v_if_ne (tgt := 11) dX11_bringBack_5 (by decide) (fun c3 => ?_) (fun c3 => ?_)
  · have h := h.1 c3
    refine v_aload_n dX11_bringBack_11 rfl rfl ?_
    refine u_getr fX11_7 dX11_bringBack_12 sh_66 rfl (by decide) (rf_66_0 _) ?_
    refine v_sipush (v := 4100) dX11_bringBack_15 (by decide) ?_
    refine v_iload_n dX11_bringBack_18 rfl rfl ?_
    refine v_iadd dX11_bringBack_19 ?_
    obtain ⟨j4, e_j4, l_j4, h⟩ := h
    refine u_iald dX11_bringBack_20 sh_67 (by decide) (by decide) e_j4 l_j4 ?_
    refine v_topi (fun v5 e_v5 => ?_)
    have h := h v5 e_v5
    refine v_istore_n dX11_bringBack_21 rfl (by decide) rfl ?_
    refine v_ls (ls2 := [some (.ref 66), some (.int a1), some (.int v5)]) rfl ?_
    refine v_iload_n dX11_bringBack_22 rfl rfl ?_
    refine v_if_ge (tgt := 29) dX11_bringBack_23 (by decide) (fun c6 => ?_) (fun c6 => ?_)
    · have h := h.1 c6
      refine v_aload_n dX11_bringBack_29 rfl rfl ?_
      refine u_callV [] mX11_change iX11_change lX11_71 dX11_bringBack_30 sh_66 rfl rfl (by decide) ⟨rfl, rfl, id⟩ rfl rfl (Nat.le_of_ble_eq_true rfl) (Nat.le_of_ble_eq_true rfl) (v_X11_change  _ _ h) ?_
      rintro _ τ8 ⟨rfl, h⟩
      refine v_aload_n dX11_bringBack_33 rfl rfl ?_
      refine u_getr fX11_7 dX11_bringBack_34 sh_66 rfl (by decide) (rf_66_0 _) ?_
      refine v_sipush (v := 4100) dX11_bringBack_37 (by decide) ?_
      refine v_iload_n dX11_bringBack_40 rfl rfl ?_
      refine v_iadd dX11_bringBack_41 ?_
      refine v_iconst (v := -1) dX11_bringBack_42 (by decide) ?_
      obtain ⟨j9, e_j9, l_j9, h⟩ := h
      refine u_iast dX11_bringBack_43 sh_67 (by decide) (by decide) e_j9 l_j9 (fun τ10 e_τ10 => ?_)
      have h := h τ10 e_τ10
      refine v_iload_n dX11_bringBack_44 rfl rfl ?_
      exact u_iret dX11_bringBack_45 ⟨rfl, id⟩ h
    · have h := h.2 c6
      refine v_bipush (v := -3) dX11_bringBack_26 (by decide) ?_
      exact u_iret dX11_bringBack_28 ⟨rfl, id⟩ h
  · have h := h.2 c3
    refine v_bipush (v := -2) dX11_bringBack_8 (by decide) ?_
    exact u_iret dX11_bringBack_10 ⟨rfl, id⟩ h
def T_X11_lose (a1 : Int32) (τ : kT) (post : Int32 → kT → Prop) : Prop := (T_X11_isKey a1 τ (fun r1 τ2 => ((¬ r1 = 0 → (∃ j4 : Nat, ((4100 : Int32) + a1) = nI j4 ∧ j4 < 8530 ∧ (∀ v5 : Int32, v5 = (q_i τ2 67 j4) → ((¬ v5 = (-6 : Int32) → (T_X11_change  τ2 (fun τ8 => (∃ j9 : Nat, ((4100 : Int32) + a1) = nI j9 ∧ j9 < 8530 ∧ (∀ τ10 : kT, τ10 = q_si τ8 67 j9 (-6 : Int32) → post v5 τ10))))) ∧ (v5 = (-6 : Int32) → post (-3 : Int32) τ2))))) ∧ (r1 = 0 → post (-2 : Int32) τ2))))
set_option maxRecDepth 100000 in
set_option maxHeartbeats 4000000 in
theorem v_X11_lose {d : Nat}  (a1 : Int32) (τ : kT) (post : Int32 → kT → Prop) (h : T_X11_lose  a1 τ post) : U yX11_lose cX11_lose 3 (some .int) (d + 2) kE0 0 [some (.ref 66), some (.int a1), none] [] τ (k_pi post) := by
  unfold T_X11_lose at h
  refine v_aload_n dX11_lose_0 rfl rfl ?_
  refine v_iload_n dX11_lose_1 rfl rfl ?_
  refine u_callV [.int a1] mX11_isKey iX11_isKey lX11_125 dX11_lose_2 sh_66 rfl rfl (by decide) ⟨rfl, rfl, id⟩ rfl rfl (Nat.le_of_ble_eq_true rfl) (Nat.le_of_ble_eq_true rfl) (v_X11_isKey a1 _ _ h) ?_
  rintro _ τ2 ⟨r1, rfl, h⟩
  refine v_if_ne (tgt := 11) dX11_lose_5 (by decide) (fun c3 => ?_) (fun c3 => ?_)
  · have h := h.1 c3
    refine v_aload_n dX11_lose_11 rfl rfl ?_
    refine u_getr fX11_7 dX11_lose_12 sh_66 rfl (by decide) (rf_66_0 _) ?_
    refine v_sipush (v := 4100) dX11_lose_15 (by decide) ?_
    refine v_iload_n dX11_lose_18 rfl rfl ?_
    refine v_iadd dX11_lose_19 ?_
    obtain ⟨j4, e_j4, l_j4, h⟩ := h
    refine u_iald dX11_lose_20 sh_67 (by decide) (by decide) e_j4 l_j4 ?_
    refine v_topi (fun v5 e_v5 => ?_)
    have h := h v5 e_v5
    refine v_istore_n dX11_lose_21 rfl (by decide) rfl ?_
    refine v_ls (ls2 := [some (.ref 66), some (.int a1), some (.int v5)]) rfl ?_
    refine v_iload_n dX11_lose_22 rfl rfl ?_
    refine v_bipush (v := -6) dX11_lose_23 (by decide) ?_
    refine v_icmp_ne (tgt := 31) dX11_lose_25 (by decide) (fun c6 => ?_) (fun c6 => ?_)
    · have h := h.1 c6
      refine v_aload_n dX11_lose_31 rfl rfl ?_
      refine u_callV [] mX11_change iX11_change lX11_71 dX11_lose_32 sh_66 rfl rfl (by decide) ⟨rfl, rfl, id⟩ rfl rfl (Nat.le_of_ble_eq_true rfl) (Nat.le_of_ble_eq_true rfl) (v_X11_change  _ _ h) ?_
      rintro _ τ8 ⟨rfl, h⟩
      refine v_aload_n dX11_lose_35 rfl rfl ?_
      refine u_getr fX11_7 dX11_lose_36 sh_66 rfl (by decide) (rf_66_0 _) ?_
      refine v_sipush (v := 4100) dX11_lose_39 (by decide) ?_
      refine v_iload_n dX11_lose_42 rfl rfl ?_
      refine v_iadd dX11_lose_43 ?_
      refine v_bipush (v := -6) dX11_lose_44 (by decide) ?_
      obtain ⟨j9, e_j9, l_j9, h⟩ := h
      refine u_iast dX11_lose_46 sh_67 (by decide) (by decide) e_j9 l_j9 (fun τ10 e_τ10 => ?_)
      have h := h τ10 e_τ10
      refine v_iload_n dX11_lose_47 rfl rfl ?_
      exact u_iret dX11_lose_48 ⟨rfl, id⟩ h
    · have h := h.2 c6
      refine v_bipush (v := -3) dX11_lose_28 (by decide) ?_
      exact u_iret dX11_lose_30 ⟨rfl, id⟩ h
  · have h := h.2 c3
    refine v_bipush (v := -2) dX11_lose_8 (by decide) ?_
    exact u_iret dX11_lose_10 ⟨rfl, id⟩ h
def T_X11_found (a1 : Int32) (τ : kT) (post : Int32 → kT → Prop) : Prop := (T_X11_isKey a1 τ (fun r1 τ2 => ((¬ r1 = 0 → (∃ j4 : Nat, ((4100 : Int32) + a1) = nI j4 ∧ j4 < 8530 ∧ (((q_i τ2 67 j4) = (-6 : Int32) → (T_X11_change  τ2 (fun τ7 => (∃ j8 : Nat, ((4100 : Int32) + a1) = nI j8 ∧ j8 < 8530 ∧ (∀ τ9 : kT, τ9 = q_si τ7 67 j8 (-1 : Int32) → post (1 : Int32) τ9))))) ∧ (¬ (q_i τ2 67 j4) = (-6 : Int32) → post (-3 : Int32) τ2)))) ∧ (r1 = 0 → post (-2 : Int32) τ2))))
set_option maxRecDepth 100000 in
set_option maxHeartbeats 4000000 in
theorem v_X11_found {d : Nat}  (a1 : Int32) (τ : kT) (post : Int32 → kT → Prop) (h : T_X11_found  a1 τ post) : U yX11_found cX11_found 2 (some .int) (d + 2) kE0 0 [some (.ref 66), some (.int a1)] [] τ (k_pi post) := by
  unfold T_X11_found at h
  refine v_aload_n dX11_found_0 rfl rfl ?_
  refine v_iload_n dX11_found_1 rfl rfl ?_
  refine u_callV [.int a1] mX11_isKey iX11_isKey lX11_125 dX11_found_2 sh_66 rfl rfl (by decide) ⟨rfl, rfl, id⟩ rfl rfl (Nat.le_of_ble_eq_true rfl) (Nat.le_of_ble_eq_true rfl) (v_X11_isKey a1 _ _ h) ?_
  rintro _ τ2 ⟨r1, rfl, h⟩
  refine v_if_ne (tgt := 11) dX11_found_5 (by decide) (fun c3 => ?_) (fun c3 => ?_)
  · have h := h.1 c3
    refine v_aload_n dX11_found_11 rfl rfl ?_
    refine u_getr fX11_7 dX11_found_12 sh_66 rfl (by decide) (rf_66_0 _) ?_
    refine v_sipush (v := 4100) dX11_found_15 (by decide) ?_
    refine v_iload_n dX11_found_18 rfl rfl ?_
    refine v_iadd dX11_found_19 ?_
    obtain ⟨j4, e_j4, l_j4, h⟩ := h
    refine u_iald dX11_found_20 sh_67 (by decide) (by decide) e_j4 l_j4 ?_
    refine v_bipush (v := -6) dX11_found_21 (by decide) ?_
    refine v_icmp_eq (tgt := 29) dX11_found_23 (by decide) (fun c5 => ?_) (fun c5 => ?_)
    · have h := h.1 c5
      refine v_aload_n dX11_found_29 rfl rfl ?_
      refine u_callV [] mX11_change iX11_change lX11_71 dX11_found_30 sh_66 rfl rfl (by decide) ⟨rfl, rfl, id⟩ rfl rfl (Nat.le_of_ble_eq_true rfl) (Nat.le_of_ble_eq_true rfl) (v_X11_change  _ _ h) ?_
      rintro _ τ7 ⟨rfl, h⟩
      refine v_aload_n dX11_found_33 rfl rfl ?_
      refine u_getr fX11_7 dX11_found_34 sh_66 rfl (by decide) (rf_66_0 _) ?_
      refine v_sipush (v := 4100) dX11_found_37 (by decide) ?_
      refine v_iload_n dX11_found_40 rfl rfl ?_
      refine v_iadd dX11_found_41 ?_
      refine v_iconst (v := -1) dX11_found_42 (by decide) ?_
      obtain ⟨j8, e_j8, l_j8, h⟩ := h
      refine u_iast dX11_found_43 sh_67 (by decide) (by decide) e_j8 l_j8 (fun τ9 e_τ9 => ?_)
      have h := h τ9 e_τ9
      refine v_iconst (v := 1) dX11_found_44 (by decide) ?_
      exact u_iret dX11_found_45 ⟨rfl, id⟩ h
    · have h := h.2 c5
      refine v_bipush (v := -3) dX11_found_26 (by decide) ?_
      exact u_iret dX11_found_28 ⟨rfl, id⟩ h
  · have h := h.2 c3
    refine v_bipush (v := -2) dX11_found_8 (by decide) ?_
    exact u_iret dX11_found_10 ⟨rfl, id⟩ h
def T_X11_holder (a1 : Int32) (τ : kT) (post : Int32 → kT → Prop) : Prop := (T_X11_isKey a1 τ (fun r1 τ2 => ((r1 = 0 → post (-2 : Int32) τ2) ∧ (¬ r1 = 0 → (∃ j4 : Nat, ((4100 : Int32) + a1) = nI j4 ∧ j4 < 8530 ∧ post (q_i τ2 67 j4) τ2)))))
set_option maxRecDepth 100000 in
set_option maxHeartbeats 4000000 in
theorem v_X11_holder {d : Nat}  (a1 : Int32) (τ : kT) (post : Int32 → kT → Prop) (h : T_X11_holder  a1 τ post) : U yX11_holder cX11_holder 2 (some .int) (d + 2) kE0 0 [some (.ref 66), some (.int a1)] [] τ (k_pi post) := by
  unfold T_X11_holder at h
  refine v_aload_n dX11_holder_0 rfl rfl ?_
  refine v_iload_n dX11_holder_1 rfl rfl ?_
  refine u_callV [.int a1] mX11_isKey iX11_isKey lX11_125 dX11_holder_2 sh_66 rfl rfl (by decide) ⟨rfl, rfl, id⟩ rfl rfl (Nat.le_of_ble_eq_true rfl) (Nat.le_of_ble_eq_true rfl) (v_X11_isKey a1 _ _ h) ?_
  rintro _ τ2 ⟨r1, rfl, h⟩
  refine v_if_eq (tgt := 21) dX11_holder_5 (by decide) (fun c3 => ?_) (fun c3 => ?_)
  · have h := h.1 c3
    refine v_bipush (v := -2) dX11_holder_21 (by decide) ?_
    exact u_iret dX11_holder_23 ⟨rfl, id⟩ h
  · have h := h.2 c3
    refine v_aload_n dX11_holder_8 rfl rfl ?_
    refine u_getr fX11_7 dX11_holder_9 sh_66 rfl (by decide) (rf_66_0 _) ?_
    refine v_sipush (v := 4100) dX11_holder_12 (by decide) ?_
    refine v_iload_n dX11_holder_15 rfl rfl ?_
    refine v_iadd dX11_holder_16 ?_
    obtain ⟨j4, e_j4, l_j4, h⟩ := h
    refine u_iald dX11_holder_17 sh_67 (by decide) (by decide) e_j4 l_j4 ?_
    refine v_goto (tgt := 23) dX11_holder_18 (by decide) ?_
    exact u_iret dX11_holder_23 ⟨rfl, id⟩ h
def T_X11_wish (a1 : Int32) (a2 : Int32) (a3 : Int32) (τ : kT) (post : Int32 → kT → Prop) : Prop := (T_X11_isKey a1 τ (fun r1 τ2 => ((r1 = 0 → post (-2 : Int32) τ2) ∧ (¬ r1 = 0 → (T_X11_isDoor a2 τ2 (fun r4 τ5 => ((r4 = 0 → post (-2 : Int32) τ5) ∧ (¬ r4 = 0 → (T_X11_in ((a3).toInt64) (0 : Int64) (2 : Int64) τ5 (fun r7 τ8 => ((¬ r7 = 0 → (T_X11_change  τ8 (fun τ11 => (∃ j12 : Nat, (((4504 : Int32) + ((40 : Int32) * a1)) + a2) = nI j12 ∧ j12 < 8530 ∧ (∀ v13 : Int32, v13 = (q_i τ11 67 j12) → (∃ j14 : Nat, (((4504 : Int32) + ((40 : Int32) * a1)) + a2) = nI j14 ∧ j14 < 8530 ∧ (∀ τ15 : kT, τ15 = q_si τ11 67 j14 a3 → post v13 τ15))))))) ∧ (r7 = 0 → post (-2 : Int32) τ8))))))))))))
set_option maxRecDepth 100000 in
set_option maxHeartbeats 4000000 in
theorem v_X11_wish {d : Nat}  (a1 : Int32) (a2 : Int32) (a3 : Int32) (τ : kT) (post : Int32 → kT → Prop) (h : T_X11_wish  a1 a2 a3 τ post) : U yX11_wish cX11_wish 5 (some .int) (d + 2) kE0 0 [some (.ref 66), some (.int a1), some (.int a2), some (.int a3), none] [] τ (k_pi post) := by
  unfold T_X11_wish at h
  refine v_aload_n dX11_wish_0 rfl rfl ?_
  refine v_iload_n dX11_wish_1 rfl rfl ?_
  refine u_callV [.int a1] mX11_isKey iX11_isKey lX11_125 dX11_wish_2 sh_66 rfl rfl (by decide) ⟨rfl, rfl, id⟩ rfl rfl (Nat.le_of_ble_eq_true rfl) (Nat.le_of_ble_eq_true rfl) (v_X11_isKey a1 _ _ h) ?_
  rintro _ τ2 ⟨r1, rfl, h⟩
  refine v_if_eq (tgt := 28) dX11_wish_5 (by decide) (fun c3 => ?_) (fun c3 => ?_)
  · have h := h.1 c3
    refine v_bipush (v := -2) dX11_wish_28 (by decide) ?_
    exact u_iret dX11_wish_30 ⟨rfl, id⟩ h
  · have h := h.2 c3
    refine v_aload_n dX11_wish_8 rfl rfl ?_
    refine v_iload_n dX11_wish_9 rfl rfl ?_
    refine u_callV [.int a2] mX11_isDoor iX11_isDoor lX11_138 dX11_wish_10 sh_66 rfl rfl (by decide) ⟨rfl, rfl, id⟩ rfl rfl (Nat.le_of_ble_eq_true rfl) (Nat.le_of_ble_eq_true rfl) (v_X11_isDoor a2 _ _ h) ?_
    rintro _ τ5 ⟨r4, rfl, h⟩
    refine v_if_eq (tgt := 28) dX11_wish_13 (by decide) (fun c6 => ?_) (fun c6 => ?_)
    · have h := h.1 c6
      refine v_bipush (v := -2) dX11_wish_28 (by decide) ?_
      exact u_iret dX11_wish_30 ⟨rfl, id⟩ h
    · have h := h.2 c6
      refine v_iload_n dX11_wish_16 rfl rfl ?_
      refine v_i2l dX11_wish_17 ?_
      refine v_lconst (v := 0) dX11_wish_18 (by decide) ?_
      refine v_ldc2 kX11_147 dX11_wish_19 ?_
      refine u_callS [.long ((a3).toInt64), .long (0 : Int64), .long (2 : Int64)] mX11_in sX11_in lX11_67 dX11_wish_22 ⟨rfl, rfl, id⟩ rfl rfl (Nat.le_of_ble_eq_true rfl) (Nat.le_of_ble_eq_true rfl) (v_X11_in ((a3).toInt64) (0 : Int64) (2 : Int64) _ _ h) ?_
      rintro _ τ8 ⟨r7, rfl, h⟩
      refine v_if_ne (tgt := 31) dX11_wish_25 (by decide) (fun c9 => ?_) (fun c9 => ?_)
      · have h := h.1 c9
        refine v_aload_n dX11_wish_31 rfl rfl ?_
        refine u_callV [] mX11_change iX11_change lX11_71 dX11_wish_32 sh_66 rfl rfl (by decide) ⟨rfl, rfl, id⟩ rfl rfl (Nat.le_of_ble_eq_true rfl) (Nat.le_of_ble_eq_true rfl) (v_X11_change  _ _ h) ?_
        rintro _ τ11 ⟨rfl, h⟩
        refine v_aload_n dX11_wish_35 rfl rfl ?_
        refine u_getr fX11_7 dX11_wish_36 sh_66 rfl (by decide) (rf_66_0 _) ?_
        refine v_sipush (v := 4504) dX11_wish_39 (by decide) ?_
        refine v_bipush (v := 40) dX11_wish_42 (by decide) ?_
        refine v_iload_n dX11_wish_44 rfl rfl ?_
        refine v_imul dX11_wish_45 ?_
        refine v_iadd dX11_wish_46 ?_
        refine v_iload_n dX11_wish_47 rfl rfl ?_
        refine v_iadd dX11_wish_48 ?_
        obtain ⟨j12, e_j12, l_j12, h⟩ := h
        refine u_iald dX11_wish_49 sh_67 (by decide) (by decide) e_j12 l_j12 ?_
        refine v_topi (fun v13 e_v13 => ?_)
        have h := h v13 e_v13
        refine v_istore dX11_wish_50 (by decide) rfl ?_
        refine v_ls (ls2 := [some (.ref 66), some (.int a1), some (.int a2), some (.int a3), some (.int v13)]) rfl ?_
        refine v_aload_n dX11_wish_52 rfl rfl ?_
        refine u_getr fX11_7 dX11_wish_53 sh_66 rfl (by decide) (rf_66_0 _) ?_
        refine v_sipush (v := 4504) dX11_wish_56 (by decide) ?_
        refine v_bipush (v := 40) dX11_wish_59 (by decide) ?_
        refine v_iload_n dX11_wish_61 rfl rfl ?_
        refine v_imul dX11_wish_62 ?_
        refine v_iadd dX11_wish_63 ?_
        refine v_iload_n dX11_wish_64 rfl rfl ?_
        refine v_iadd dX11_wish_65 ?_
        refine v_iload_n dX11_wish_66 rfl rfl ?_
        obtain ⟨j14, e_j14, l_j14, h⟩ := h
        refine u_iast dX11_wish_67 sh_67 (by decide) (by decide) e_j14 l_j14 (fun τ15 e_τ15 => ?_)
        have h := h τ15 e_τ15
        refine v_iload dX11_wish_68 rfl ?_
        exact u_iret dX11_wish_70 ⟨rfl, id⟩ h
      · have h := h.2 c9
        refine v_bipush (v := -2) dX11_wish_28 (by decide) ?_
        exact u_iret dX11_wish_30 ⟨rfl, id⟩ h
def T_X11_areRight (a1 : Int32) (a2 : Int32) (a3 : Int32) (a4 : Int32) (τ : kT) (post : Int32 → kT → Prop) : Prop := (T_X11_in ((a1).toInt64) (1 : Int64) (6 : Int64) τ (fun r1 τ2 => ((r1 = 0 → post (0 : Int32) τ2) ∧ (¬ r1 = 0 → (T_X11_in ((a2).toInt64) (1 : Int64) (6 : Int64) τ2 (fun r4 τ5 => ((r4 = 0 → post (0 : Int32) τ5) ∧ (¬ r4 = 0 → (T_X11_in ((a3).toInt64) (1 : Int64) (5 : Int64) τ5 (fun r7 τ8 => ((r7 = 0 → post (0 : Int32) τ8) ∧ (¬ r7 = 0 → (T_X11_in ((a4).toInt64) (0 : Int64) (9 : Int64) τ8 (fun r10 τ11 => ((r10 = 0 → post (0 : Int32) τ11) ∧ (¬ r10 = 0 → post (1 : Int32) τ11))))))))))))))))
set_option maxRecDepth 100000 in
set_option maxHeartbeats 4000000 in
theorem v_X11_areRight {d : Nat}  (a1 : Int32) (a2 : Int32) (a3 : Int32) (a4 : Int32) (τ : kT) (post : Int32 → kT → Prop) (h : T_X11_areRight  a1 a2 a3 a4 τ post) : U yX11_areRight cX11_areRight 4 (some .boolean) (d + 1) kE0 0 [some (.int a1), some (.int a2), some (.int a3), some (.int a4)] [] τ (k_pi post) := by
  unfold T_X11_areRight at h
  refine v_iload_n dX11_areRight_0 rfl rfl ?_
  refine v_i2l dX11_areRight_1 ?_
  refine v_lconst (v := 1) dX11_areRight_2 (by decide) ?_
  refine v_ldc2 kX11_149 dX11_areRight_3 ?_
  refine u_callS [.long ((a1).toInt64), .long (1 : Int64), .long (6 : Int64)] mX11_in sX11_in lX11_67 dX11_areRight_6 ⟨rfl, rfl, id⟩ rfl rfl (Nat.le_of_ble_eq_true rfl) (Nat.le_of_ble_eq_true rfl) (v_X11_in ((a1).toInt64) (1 : Int64) (6 : Int64) _ _ h) ?_
  rintro _ τ2 ⟨r1, rfl, h⟩
  refine v_if_eq (tgt := 52) dX11_areRight_9 (by decide) (fun c3 => ?_) (fun c3 => ?_)
  · have h := h.1 c3
    refine v_iconst (v := 0) dX11_areRight_52 (by decide) ?_
    exact u_zret dX11_areRight_53 rfl ⟨rfl, id⟩ h
  · have h := h.2 c3
    refine v_iload_n dX11_areRight_12 rfl rfl ?_
    refine v_i2l dX11_areRight_13 ?_
    refine v_lconst (v := 1) dX11_areRight_14 (by decide) ?_
    refine v_ldc2 kX11_149 dX11_areRight_15 ?_
    refine u_callS [.long ((a2).toInt64), .long (1 : Int64), .long (6 : Int64)] mX11_in sX11_in lX11_67 dX11_areRight_18 ⟨rfl, rfl, id⟩ rfl rfl (Nat.le_of_ble_eq_true rfl) (Nat.le_of_ble_eq_true rfl) (v_X11_in ((a2).toInt64) (1 : Int64) (6 : Int64) _ _ h) ?_
    rintro _ τ5 ⟨r4, rfl, h⟩
    refine v_if_eq (tgt := 52) dX11_areRight_21 (by decide) (fun c6 => ?_) (fun c6 => ?_)
    · have h := h.1 c6
      refine v_iconst (v := 0) dX11_areRight_52 (by decide) ?_
      exact u_zret dX11_areRight_53 rfl ⟨rfl, id⟩ h
    · have h := h.2 c6
      refine v_iload_n dX11_areRight_24 rfl rfl ?_
      refine v_i2l dX11_areRight_25 ?_
      refine v_lconst (v := 1) dX11_areRight_26 (by decide) ?_
      refine v_ldc2 kX11_151 dX11_areRight_27 ?_
      refine u_callS [.long ((a3).toInt64), .long (1 : Int64), .long (5 : Int64)] mX11_in sX11_in lX11_67 dX11_areRight_30 ⟨rfl, rfl, id⟩ rfl rfl (Nat.le_of_ble_eq_true rfl) (Nat.le_of_ble_eq_true rfl) (v_X11_in ((a3).toInt64) (1 : Int64) (5 : Int64) _ _ h) ?_
      rintro _ τ8 ⟨r7, rfl, h⟩
      refine v_if_eq (tgt := 52) dX11_areRight_33 (by decide) (fun c9 => ?_) (fun c9 => ?_)
      · have h := h.1 c9
        refine v_iconst (v := 0) dX11_areRight_52 (by decide) ?_
        exact u_zret dX11_areRight_53 rfl ⟨rfl, id⟩ h
      · have h := h.2 c9
        refine v_iload_n dX11_areRight_36 rfl rfl ?_
        refine v_i2l dX11_areRight_37 ?_
        refine v_lconst (v := 0) dX11_areRight_38 (by decide) ?_
        refine v_ldc2 kX11_91 dX11_areRight_39 ?_
        refine u_callS [.long ((a4).toInt64), .long (0 : Int64), .long (9 : Int64)] mX11_in sX11_in lX11_67 dX11_areRight_42 ⟨rfl, rfl, id⟩ rfl rfl (Nat.le_of_ble_eq_true rfl) (Nat.le_of_ble_eq_true rfl) (v_X11_in ((a4).toInt64) (0 : Int64) (9 : Int64) _ _ h) ?_
        rintro _ τ11 ⟨r10, rfl, h⟩
        refine v_if_eq (tgt := 52) dX11_areRight_45 (by decide) (fun c12 => ?_) (fun c12 => ?_)
        · have h := h.1 c12
          refine v_iconst (v := 0) dX11_areRight_52 (by decide) ?_
          exact u_zret dX11_areRight_53 rfl ⟨rfl, id⟩ h
        · have h := h.2 c12
          refine v_iconst (v := 1) dX11_areRight_48 (by decide) ?_
          refine v_goto (tgt := 53) dX11_areRight_49 (by decide) ?_
          exact u_zret dX11_areRight_53 rfl ⟨rfl, id⟩ h
def L_X11_against_100  (f1 : Int32) (f2 : Int32) (f3 : Int32) (f4 : Int32) (K : Int32 → Int32 → kT → Prop) (post : Int32 → kT → Prop) : Nat → Int32 → Int32 → kT → Prop
  | 0, _, _, _ => False
  | n + 1, x5, x6, τ => ((f3 ≤ x6 → K x5 x6 τ) ∧ (¬ f3 ≤ x6 → ((¬ x5 = 0 → (∀ v19 : Int32, v19 = x6 + (1 : Int32) → L_X11_against_100 f1 f2 f3 f4 K post n (1 : Int32) v19 τ)) ∧ (x5 = 0 → (∃ j20 : Nat, ((4464 : Int32) + x6) = nI j20 ∧ j20 < 8530 ∧ ((¬ (q_i τ 67 j20) = f4 → (∀ v22 : Int32, v22 = x6 + (1 : Int32) → L_X11_against_100 f1 f2 f3 f4 K post n (0 : Int32) v22 τ)) ∧ ((q_i τ 67 j20) = f4 → (∀ v23 : Int32, v23 = x6 + (1 : Int32) → L_X11_against_100 f1 f2 f3 f4 K post n (1 : Int32) v23 τ))))))))
def L_X11_against_2  (f1 : Int32) (f2 : Int32) (K : Int32 → kT → Prop) (post : Int32 → kT → Prop) : Nat → Int32 → kT → Prop
  | 0, _, _ => False
  | n + 1, x3, τ => ((f1 ≤ x3 → K x3 τ) ∧ (¬ f1 ≤ x3 → (∃ j2 : Nat, ((4464 : Int32) + x3) = nI j2 ∧ j2 < 8530 ∧ (∀ v3 : Int32, v3 = (q_i τ 67 j2) → ((v3 = (-1 : Int32) → ((v3 = (-1 : Int32) → post (1 : Int32) τ) ∧ (¬ v3 = (-1 : Int32) → (∃ j6 : Nat, ((0 : Int32) + v3) = nI j6 ∧ j6 < 8530 ∧ ((¬ (q_i τ 67 j6) = (4 : Int32) → post (1 : Int32) τ) ∧ ((q_i τ 67 j6) = (4 : Int32) → post (3 : Int32) τ)))))) ∧ (¬ v3 = (-1 : Int32) → (∃ j8 : Nat, ((0 : Int32) + v3) = nI j8 ∧ j8 < 8530 ∧ (((q_i τ 67 j8) = (4 : Int32) → ((v3 = (-1 : Int32) → post (1 : Int32) τ) ∧ (¬ v3 = (-1 : Int32) → (∃ j11 : Nat, ((0 : Int32) + v3) = nI j11 ∧ j11 < 8530 ∧ ((¬ (q_i τ 67 j11) = (4 : Int32) → post (1 : Int32) τ) ∧ ((q_i τ 67 j11) = (4 : Int32) → post (3 : Int32) τ)))))) ∧ (¬ (q_i τ 67 j8) = (4 : Int32) → (∃ j13 : Nat, ((100 : Int32) + v3) = nI j13 ∧ j13 < 8530 ∧ ((0 ≤ (q_i τ 67 j13) → (∃ j15 : Nat, ((100 : Int32) + v3) = nI j15 ∧ j15 < 8530 ∧ (((q_i τ 67 j15) = f2 → (∃ m24 : Nat, L_X11_against_100  f1 f2 x3 v3 (fun v25 v26 τ27 => ((v25 = 0 → (∀ v29 : Int32, v29 = x3 + (1 : Int32) → L_X11_against_2 f1 f2 K post n v29 τ27)) ∧ (¬ v25 = 0 → post (-3 : Int32) τ27))) post m24 (0 : Int32) (0 : Int32) τ)) ∧ (¬ (q_i τ 67 j15) = f2 → (∃ m30 : Nat, L_X11_against_100  f1 f2 x3 v3 (fun v31 v32 τ33 => ((v31 = 0 → (∀ v35 : Int32, v35 = x3 + (1 : Int32) → L_X11_against_2 f1 f2 K post n v35 τ33)) ∧ (¬ v31 = 0 → post (-3 : Int32) τ33))) post m30 (1 : Int32) (0 : Int32) τ))))) ∧ (¬ 0 ≤ (q_i τ 67 j13) → ((v3 = (-1 : Int32) → post (1 : Int32) τ) ∧ (¬ v3 = (-1 : Int32) → (∃ j37 : Nat, ((0 : Int32) + v3) = nI j37 ∧ j37 < 8530 ∧ ((¬ (q_i τ 67 j37) = (4 : Int32) → post (1 : Int32) τ) ∧ ((q_i τ 67 j37) = (4 : Int32) → post (3 : Int32) τ)))))))))))))))))
def T_X11_against (a1 : Int32) (a2 : Int32) (τ : kT) (post : Int32 → kT → Prop) : Prop := (∃ m39 : Nat, L_X11_against_2  a1 a2 (fun v40 τ41 => post (0 : Int32) τ41) post m39 (0 : Int32) τ)
set_option maxRecDepth 100000 in
set_option maxHeartbeats 4000000 in
theorem l_X11_against_100 {d : Nat}  (f1 : Int32) (f2 : Int32) (f3 : Int32) (f4 : Int32) {K : Int32 → Int32 → kT → Prop} {post : Int32 → kT → Prop} (hK : ∀ (x5 : Int32) (x6 : Int32) (τ : kT), K x5 x6 τ → U yX11_against cX11_against 7 (some .int) (d + 0) kE0 140 [some (.ref 66), some (.int f1), some (.int f2), some (.int f3), some (.int f4), some (.int x5), some (.int x6)] [] τ (k_pi post)) : ∀ (n : Nat) (x5 : Int32) (x6 : Int32) (τ : kT), L_X11_against_100  f1 f2 f3 f4 K post n x5 x6 τ → U yX11_against cX11_against 7 (some .int) (d + 0) kE0 100 [some (.ref 66), some (.int f1), some (.int f2), some (.int f3), some (.int f4), some (.int x5), some (.int x6)] [] τ (k_pi post) := by
  intro n
  induction n with
  | zero => intro x5 x6 τ h; exact h.elim
  | succ n ih =>
    intro x5 x6 τ h
    unfold L_X11_against_100 at h
    refine v_iload dX11_against_100 rfl ?_
    refine v_iload_n dX11_against_102 rfl rfl ?_
    refine v_icmp_ge (tgt := 140) dX11_against_103 (by decide) (fun c17 => ?_) (fun c17 => ?_)
    · have h := h.1 c17
      exact hK x5 x6 _ h
    · have h := h.2 c17
      refine v_iload dX11_against_106 rfl ?_
      refine v_if_ne (tgt := 127) dX11_against_108 (by decide) (fun c18 => ?_) (fun c18 => ?_)
      · have h := h.1 c18
        refine v_iconst (v := 1) dX11_against_127 (by decide) ?_
        refine v_goto (tgt := 132) dX11_against_128 (by decide) ?_
        refine v_istore dX11_against_132 (by decide) rfl ?_
        refine v_ls (ls2 := [some (.ref 66), some (.int f1), some (.int f2), some (.int f3), some (.int f4), some (.int (1 : Int32)), some (.int x6)]) rfl ?_
        obtain ⟨v19, e_v19⟩ : ∃ z : Int32, z = x6 + (1 : Int32) := ⟨_, rfl⟩
        have h := h v19 e_v19
        refine v_iinc (v := v19) dX11_against_134 rfl (by rw [e_v19]; rfl) (by decide) rfl ?_
        refine v_ls (ls2 := [some (.ref 66), some (.int f1), some (.int f2), some (.int f3), some (.int f4), some (.int (1 : Int32)), some (.int v19)]) rfl ?_
        refine v_goto (tgt := 100) dX11_against_137 (by decide) ?_
        exact ih (1 : Int32) v19 _ h
      · have h := h.2 c18
        refine v_aload_n dX11_against_111 rfl rfl ?_
        refine u_getr fX11_7 dX11_against_112 sh_66 rfl (by decide) (rf_66_0 _) ?_
        refine v_sipush (v := 4464) dX11_against_115 (by decide) ?_
        refine v_iload dX11_against_118 rfl ?_
        refine v_iadd dX11_against_120 ?_
        obtain ⟨j20, e_j20, l_j20, h⟩ := h
        refine u_iald dX11_against_121 sh_67 (by decide) (by decide) e_j20 l_j20 ?_
        refine v_iload dX11_against_122 rfl ?_
        refine v_icmp_ne (tgt := 131) dX11_against_124 (by decide) (fun c21 => ?_) (fun c21 => ?_)
        · have h := h.1 c21
          refine v_iconst (v := 0) dX11_against_131 (by decide) ?_
          refine v_istore dX11_against_132 (by decide) rfl ?_
          refine v_ls (ls2 := [some (.ref 66), some (.int f1), some (.int f2), some (.int f3), some (.int f4), some (.int (0 : Int32)), some (.int x6)]) rfl ?_
          obtain ⟨v22, e_v22⟩ : ∃ z : Int32, z = x6 + (1 : Int32) := ⟨_, rfl⟩
          have h := h v22 e_v22
          refine v_iinc (v := v22) dX11_against_134 rfl (by rw [e_v22]; rfl) (by decide) rfl ?_
          refine v_ls (ls2 := [some (.ref 66), some (.int f1), some (.int f2), some (.int f3), some (.int f4), some (.int (0 : Int32)), some (.int v22)]) rfl ?_
          refine v_goto (tgt := 100) dX11_against_137 (by decide) ?_
          exact ih (0 : Int32) v22 _ h
        · have h := h.2 c21
          refine v_iconst (v := 1) dX11_against_127 (by decide) ?_
          refine v_goto (tgt := 132) dX11_against_128 (by decide) ?_
          refine v_istore dX11_against_132 (by decide) rfl ?_
          refine v_ls (ls2 := [some (.ref 66), some (.int f1), some (.int f2), some (.int f3), some (.int f4), some (.int (1 : Int32)), some (.int x6)]) rfl ?_
          obtain ⟨v23, e_v23⟩ : ∃ z : Int32, z = x6 + (1 : Int32) := ⟨_, rfl⟩
          have h := h v23 e_v23
          refine v_iinc (v := v23) dX11_against_134 rfl (by rw [e_v23]; rfl) (by decide) rfl ?_
          refine v_ls (ls2 := [some (.ref 66), some (.int f1), some (.int f2), some (.int f3), some (.int f4), some (.int (1 : Int32)), some (.int v23)]) rfl ?_
          refine v_goto (tgt := 100) dX11_against_137 (by decide) ?_
          exact ih (1 : Int32) v23 _ h
set_option maxRecDepth 100000 in
set_option maxHeartbeats 4000000 in
theorem l_X11_against_2 {d : Nat}  (f1 : Int32) (f2 : Int32) {K : Int32 → kT → Prop} {post : Int32 → kT → Prop} (hK : ∀ (x3 : Int32) (τ : kT), K x3 τ → U yX11_against cX11_against 7 (some .int) (d + 0) kE0 154 [some (.ref 66), some (.int f1), some (.int f2), some (.int x3), none, none, none] [] τ (k_pi post)) : ∀ (n : Nat) (x3 : Int32) (τ : kT), L_X11_against_2  f1 f2 K post n x3 τ → U yX11_against cX11_against 7 (some .int) (d + 0) kE0 2 [some (.ref 66), some (.int f1), some (.int f2), some (.int x3), none, none, none] [] τ (k_pi post) := by
  intro n
  induction n with
  | zero => intro x3 τ h; exact h.elim
  | succ n ih =>
    intro x3 τ h
    unfold L_X11_against_2 at h
    refine v_iload_n dX11_against_2 rfl rfl ?_
    refine v_iload_n dX11_against_3 rfl rfl ?_
    refine v_icmp_ge (tgt := 154) dX11_against_4 (by decide) (fun c1 => ?_) (fun c1 => ?_)
    · have h := h.1 c1
      exact hK x3 _ h
    · have h := h.2 c1
      refine v_aload_n dX11_against_7 rfl rfl ?_
      refine u_getr fX11_7 dX11_against_8 sh_66 rfl (by decide) (rf_66_0 _) ?_
      refine v_sipush (v := 4464) dX11_against_11 (by decide) ?_
      refine v_iload_n dX11_against_14 rfl rfl ?_
      refine v_iadd dX11_against_15 ?_
      obtain ⟨j2, e_j2, l_j2, h⟩ := h
      refine u_iald dX11_against_16 sh_67 (by decide) (by decide) e_j2 l_j2 ?_
      refine v_topi (fun v3 e_v3 => ?_)
      have h := h v3 e_v3
      refine v_istore dX11_against_17 (by decide) rfl ?_
      refine v_ls (ls2 := [some (.ref 66), some (.int f1), some (.int f2), some (.int x3), some (.int v3), none, none]) rfl ?_
      refine v_iload dX11_against_19 rfl ?_
      refine v_iconst (v := -1) dX11_against_21 (by decide) ?_
      refine v_icmp_eq (tgt := 51) dX11_against_22 (by decide) (fun c4 => ?_) (fun c4 => ?_)
      · have h := h.1 c4
        refine v_iload dX11_against_51 rfl ?_
        refine v_iconst (v := -1) dX11_against_53 (by decide) ?_
        refine v_icmp_eq (tgt := 74) dX11_against_54 (by decide) (fun c5 => ?_) (fun c5 => ?_)
        · have h := h.1 c5
          refine v_iconst (v := 1) dX11_against_74 (by decide) ?_
          exact u_iret dX11_against_75 ⟨rfl, id⟩ h
        · have h := h.2 c5
          refine v_aload_n dX11_against_57 rfl rfl ?_
          refine u_getr fX11_7 dX11_against_58 sh_66 rfl (by decide) (rf_66_0 _) ?_
          refine v_iconst (v := 0) dX11_against_61 (by decide) ?_
          refine v_iload dX11_against_62 rfl ?_
          refine v_iadd dX11_against_64 ?_
          obtain ⟨j6, e_j6, l_j6, h⟩ := h
          refine u_iald dX11_against_65 sh_67 (by decide) (by decide) e_j6 l_j6 ?_
          refine v_iconst (v := 4) dX11_against_66 (by decide) ?_
          refine v_icmp_ne (tgt := 74) dX11_against_67 (by decide) (fun c7 => ?_) (fun c7 => ?_)
          · have h := h.1 c7
            refine v_iconst (v := 1) dX11_against_74 (by decide) ?_
            exact u_iret dX11_against_75 ⟨rfl, id⟩ h
          · have h := h.2 c7
            refine v_iconst (v := 3) dX11_against_70 (by decide) ?_
            refine v_goto (tgt := 75) dX11_against_71 (by decide) ?_
            exact u_iret dX11_against_75 ⟨rfl, id⟩ h
      · have h := h.2 c4
        refine v_aload_n dX11_against_25 rfl rfl ?_
        refine u_getr fX11_7 dX11_against_26 sh_66 rfl (by decide) (rf_66_0 _) ?_
        refine v_iconst (v := 0) dX11_against_29 (by decide) ?_
        refine v_iload dX11_against_30 rfl ?_
        refine v_iadd dX11_against_32 ?_
        obtain ⟨j8, e_j8, l_j8, h⟩ := h
        refine u_iald dX11_against_33 sh_67 (by decide) (by decide) e_j8 l_j8 ?_
        refine v_iconst (v := 4) dX11_against_34 (by decide) ?_
        refine v_icmp_eq (tgt := 51) dX11_against_35 (by decide) (fun c9 => ?_) (fun c9 => ?_)
        · have h := h.1 c9
          refine v_iload dX11_against_51 rfl ?_
          refine v_iconst (v := -1) dX11_against_53 (by decide) ?_
          refine v_icmp_eq (tgt := 74) dX11_against_54 (by decide) (fun c10 => ?_) (fun c10 => ?_)
          · have h := h.1 c10
            refine v_iconst (v := 1) dX11_against_74 (by decide) ?_
            exact u_iret dX11_against_75 ⟨rfl, id⟩ h
          · have h := h.2 c10
            refine v_aload_n dX11_against_57 rfl rfl ?_
            refine u_getr fX11_7 dX11_against_58 sh_66 rfl (by decide) (rf_66_0 _) ?_
            refine v_iconst (v := 0) dX11_against_61 (by decide) ?_
            refine v_iload dX11_against_62 rfl ?_
            refine v_iadd dX11_against_64 ?_
            obtain ⟨j11, e_j11, l_j11, h⟩ := h
            refine u_iald dX11_against_65 sh_67 (by decide) (by decide) e_j11 l_j11 ?_
            refine v_iconst (v := 4) dX11_against_66 (by decide) ?_
            refine v_icmp_ne (tgt := 74) dX11_against_67 (by decide) (fun c12 => ?_) (fun c12 => ?_)
            · have h := h.1 c12
              refine v_iconst (v := 1) dX11_against_74 (by decide) ?_
              exact u_iret dX11_against_75 ⟨rfl, id⟩ h
            · have h := h.2 c12
              refine v_iconst (v := 3) dX11_against_70 (by decide) ?_
              refine v_goto (tgt := 75) dX11_against_71 (by decide) ?_
              exact u_iret dX11_against_75 ⟨rfl, id⟩ h
        · have h := h.2 c9
          refine v_aload_n dX11_against_38 rfl rfl ?_
          refine u_getr fX11_7 dX11_against_39 sh_66 rfl (by decide) (rf_66_0 _) ?_
          refine v_bipush (v := 100) dX11_against_42 (by decide) ?_
          refine v_iload dX11_against_44 rfl ?_
          refine v_iadd dX11_against_46 ?_
          obtain ⟨j13, e_j13, l_j13, h⟩ := h
          refine u_iald dX11_against_47 sh_67 (by decide) (by decide) e_j13 l_j13 ?_
          refine v_if_ge (tgt := 76) dX11_against_48 (by decide) (fun c14 => ?_) (fun c14 => ?_)
          · have h := h.1 c14
            refine v_aload_n dX11_against_76 rfl rfl ?_
            refine u_getr fX11_7 dX11_against_77 sh_66 rfl (by decide) (rf_66_0 _) ?_
            refine v_bipush (v := 100) dX11_against_80 (by decide) ?_
            refine v_iload dX11_against_82 rfl ?_
            refine v_iadd dX11_against_84 ?_
            obtain ⟨j15, e_j15, l_j15, h⟩ := h
            refine u_iald dX11_against_85 sh_67 (by decide) (by decide) e_j15 l_j15 ?_
            refine v_iload_n dX11_against_86 rfl rfl ?_
            refine v_icmp_eq (tgt := 94) dX11_against_87 (by decide) (fun c16 => ?_) (fun c16 => ?_)
            · have h := h.1 c16
              refine v_iconst (v := 0) dX11_against_94 (by decide) ?_
              refine v_istore dX11_against_95 (by decide) rfl ?_
              refine v_ls (ls2 := [some (.ref 66), some (.int f1), some (.int f2), some (.int x3), some (.int v3), some (.int (0 : Int32)), none]) rfl ?_
              refine v_iconst (v := 0) dX11_against_97 (by decide) ?_
              refine v_istore dX11_against_98 (by decide) rfl ?_
              refine v_ls (ls2 := [some (.ref 66), some (.int f1), some (.int f2), some (.int x3), some (.int v3), some (.int (0 : Int32)), some (.int (0 : Int32))]) rfl ?_
              obtain ⟨m24, h⟩ := h
              refine l_X11_against_100  f1 f2 x3 v3 (fun v25 v26 τ27 h => ?_) m24 (0 : Int32) (0 : Int32) _ h
              refine v_iload dX11_against_140 rfl ?_
              refine v_if_eq (tgt := 148) dX11_against_142 (by decide) (fun c28 => ?_) (fun c28 => ?_)
              · have h := h.1 c28
                obtain ⟨v29, e_v29⟩ : ∃ z : Int32, z = x3 + (1 : Int32) := ⟨_, rfl⟩
                have h := h v29 e_v29
                refine v_iinc (v := v29) dX11_against_148 rfl (by rw [e_v29]; rfl) (by decide) rfl ?_
                refine v_ls (ls2 := [some (.ref 66), some (.int f1), some (.int f2), some (.int v29), some (.int v3), some (.int v25), some (.int v26)]) rfl ?_
                refine v_goto (tgt := 2) dX11_against_151 (by decide) ?_
                refine v_none 4 ?_
                refine v_ls (ls2 := [some (.ref 66), some (.int f1), some (.int f2), some (.int v29), none, some (.int v25), some (.int v26)]) rfl ?_
                refine v_none 5 ?_
                refine v_ls (ls2 := [some (.ref 66), some (.int f1), some (.int f2), some (.int v29), none, none, some (.int v26)]) rfl ?_
                refine v_none 6 ?_
                refine v_ls (ls2 := [some (.ref 66), some (.int f1), some (.int f2), some (.int v29), none, none, none]) rfl ?_
                exact ih v29 _ h
              · have h := h.2 c28
                refine v_bipush (v := -3) dX11_against_145 (by decide) ?_
                exact u_iret dX11_against_147 ⟨rfl, id⟩ h
            · have h := h.2 c16
              refine v_iconst (v := 1) dX11_against_90 (by decide) ?_
              refine v_goto (tgt := 95) dX11_against_91 (by decide) ?_
              refine v_istore dX11_against_95 (by decide) rfl ?_
              refine v_ls (ls2 := [some (.ref 66), some (.int f1), some (.int f2), some (.int x3), some (.int v3), some (.int (1 : Int32)), none]) rfl ?_
              refine v_iconst (v := 0) dX11_against_97 (by decide) ?_
              refine v_istore dX11_against_98 (by decide) rfl ?_
              refine v_ls (ls2 := [some (.ref 66), some (.int f1), some (.int f2), some (.int x3), some (.int v3), some (.int (1 : Int32)), some (.int (0 : Int32))]) rfl ?_
              obtain ⟨m30, h⟩ := h
              refine l_X11_against_100  f1 f2 x3 v3 (fun v31 v32 τ33 h => ?_) m30 (1 : Int32) (0 : Int32) _ h
              refine v_iload dX11_against_140 rfl ?_
              refine v_if_eq (tgt := 148) dX11_against_142 (by decide) (fun c34 => ?_) (fun c34 => ?_)
              · have h := h.1 c34
                obtain ⟨v35, e_v35⟩ : ∃ z : Int32, z = x3 + (1 : Int32) := ⟨_, rfl⟩
                have h := h v35 e_v35
                refine v_iinc (v := v35) dX11_against_148 rfl (by rw [e_v35]; rfl) (by decide) rfl ?_
                refine v_ls (ls2 := [some (.ref 66), some (.int f1), some (.int f2), some (.int v35), some (.int v3), some (.int v31), some (.int v32)]) rfl ?_
                refine v_goto (tgt := 2) dX11_against_151 (by decide) ?_
                refine v_none 4 ?_
                refine v_ls (ls2 := [some (.ref 66), some (.int f1), some (.int f2), some (.int v35), none, some (.int v31), some (.int v32)]) rfl ?_
                refine v_none 5 ?_
                refine v_ls (ls2 := [some (.ref 66), some (.int f1), some (.int f2), some (.int v35), none, none, some (.int v32)]) rfl ?_
                refine v_none 6 ?_
                refine v_ls (ls2 := [some (.ref 66), some (.int f1), some (.int f2), some (.int v35), none, none, none]) rfl ?_
                exact ih v35 _ h
              · have h := h.2 c34
                refine v_bipush (v := -3) dX11_against_145 (by decide) ?_
                exact u_iret dX11_against_147 ⟨rfl, id⟩ h
          · have h := h.2 c14
            refine v_iload dX11_against_51 rfl ?_
            refine v_iconst (v := -1) dX11_against_53 (by decide) ?_
            refine v_icmp_eq (tgt := 74) dX11_against_54 (by decide) (fun c36 => ?_) (fun c36 => ?_)
            · have h := h.1 c36
              refine v_iconst (v := 1) dX11_against_74 (by decide) ?_
              exact u_iret dX11_against_75 ⟨rfl, id⟩ h
            · have h := h.2 c36
              refine v_aload_n dX11_against_57 rfl rfl ?_
              refine u_getr fX11_7 dX11_against_58 sh_66 rfl (by decide) (rf_66_0 _) ?_
              refine v_iconst (v := 0) dX11_against_61 (by decide) ?_
              refine v_iload dX11_against_62 rfl ?_
              refine v_iadd dX11_against_64 ?_
              obtain ⟨j37, e_j37, l_j37, h⟩ := h
              refine u_iald dX11_against_65 sh_67 (by decide) (by decide) e_j37 l_j37 ?_
              refine v_iconst (v := 4) dX11_against_66 (by decide) ?_
              refine v_icmp_ne (tgt := 74) dX11_against_67 (by decide) (fun c38 => ?_) (fun c38 => ?_)
              · have h := h.1 c38
                refine v_iconst (v := 1) dX11_against_74 (by decide) ?_
                exact u_iret dX11_against_75 ⟨rfl, id⟩ h
              · have h := h.2 c38
                refine v_iconst (v := 3) dX11_against_70 (by decide) ?_
                refine v_goto (tgt := 75) dX11_against_71 (by decide) ?_
                exact u_iret dX11_against_75 ⟨rfl, id⟩ h
set_option maxRecDepth 100000 in
set_option maxHeartbeats 4000000 in
theorem v_X11_against {d : Nat}  (a1 : Int32) (a2 : Int32) (τ : kT) (post : Int32 → kT → Prop) (h : T_X11_against  a1 a2 τ post) : U yX11_against cX11_against 7 (some .int) (d + 0) kE0 0 [some (.ref 66), some (.int a1), some (.int a2), none, none, none, none] [] τ (k_pi post) := by
  unfold T_X11_against at h
  refine v_iconst (v := 0) dX11_against_0 (by decide) ?_
  refine v_istore_n dX11_against_1 rfl (by decide) rfl ?_
  refine v_ls (ls2 := [some (.ref 66), some (.int a1), some (.int a2), some (.int (0 : Int32)), none, none, none]) rfl ?_
  obtain ⟨m39, h⟩ := h
  refine l_X11_against_2  a1 a2 (fun v40 τ41 h => ?_) m39 (0 : Int32) _ h
  refine v_iconst (v := 0) dX11_against_154 (by decide) ?_
  exact u_iret dX11_against_155 ⟨rfl, id⟩ h
def T_X11_would (a1 : Int32) (a2 : Int32) (τ : kT) (post : Int32 → kT → Prop) : Prop := (∃ j1 : Nat, ((4464 : Int32) + a2) = nI j1 ∧ j1 < 8530 ∧ (T_X11_tried 2 (q_i τ 67 j1) a1 (0 : Int32) (0 : Int32) τ (fun r2 τ3 => ((¬ r2 = (1 : Int32) → post (0 : Int32) τ3) ∧ (r2 = (1 : Int32) → post (1 : Int32) τ3)))))
set_option maxRecDepth 100000 in
set_option maxHeartbeats 4000000 in
theorem v_X11_would {d : Nat}  (a1 : Int32) (a2 : Int32) (τ : kT) (post : Int32 → kT → Prop) (h : T_X11_would  a1 a2 τ post) : U yX11_would cX11_would 3 (some .boolean) (d + 4) kE0 0 [some (.ref 66), some (.int a1), some (.int a2)] [] τ (k_pi post) := by
  unfold T_X11_would at h
  refine v_aload_n dX11_would_0 rfl rfl ?_
  refine v_aload_n dX11_would_1 rfl rfl ?_
  refine u_getr fX11_7 dX11_would_2 sh_66 rfl (by decide) (rf_66_0 _) ?_
  refine v_sipush (v := 4464) dX11_would_5 (by decide) ?_
  refine v_iload_n dX11_would_8 rfl rfl ?_
  refine v_iadd dX11_would_9 ?_
  obtain ⟨j1, e_j1, l_j1, h⟩ := h
  refine u_iald dX11_would_10 sh_67 (by decide) (by decide) e_j1 l_j1 ?_
  refine v_iload_n dX11_would_11 rfl rfl ?_
  refine v_iconst (v := 0) dX11_would_12 (by decide) ?_
  refine v_iconst (v := 0) dX11_would_13 (by decide) ?_
  refine u_callV [.int (q_i τ 67 j1), .int a1, .int (0 : Int32), .int (0 : Int32)] mX11_tried iX11_tried lX11_128 dX11_would_14 sh_66 rfl rfl (by decide) ⟨rfl, rfl, id⟩ rfl rfl (Nat.le_of_ble_eq_true rfl) (Nat.le_of_ble_eq_true rfl) (v_X11_tried_N (q_i τ 67 j1) a1 (0 : Int32) (0 : Int32) _ _ h) ?_
  rintro _ τ3 ⟨r2, rfl, h⟩
  refine v_iconst (v := 1) dX11_would_17 (by decide) ?_
  refine v_icmp_ne (tgt := 25) dX11_would_18 (by decide) (fun c4 => ?_) (fun c4 => ?_)
  · have h := h.1 c4
    refine v_iconst (v := 0) dX11_would_25 (by decide) ?_
    exact u_zret dX11_would_26 rfl ⟨rfl, id⟩ h
  · have h := h.2 c4
    refine v_iconst (v := 1) dX11_would_21 (by decide) ?_
    refine v_goto (tgt := 26) dX11_would_22 (by decide) ?_
    exact u_zret dX11_would_26 rfl ⟨rfl, id⟩ h
def L_X11_cutsAt_6  (f1 : Int32) (f2 : Int32) (f3 : Int32) (K : Int32 → Int32 → kT → Prop) (post : Int32 → kT → Prop) : Nat → Int32 → Int32 → kT → Prop
  | 0, _, _, _ => False
  | n + 1, x4, x5, τ => ((f3 < x5 → K x4 x5 τ) ∧ (¬ f3 < x5 → (∃ j2 : Nat, x5 = nI j2 ∧ j2 < 6 ∧ (∃ j3 : Nat, (((6 : Int32) * (q_i τ 72 j2)) + f1) = nI j3 ∧ j3 < 36 ∧ ((¬ (q_i τ 73 j3) = (1 : Int32) → (∀ v5 : Int32, v5 = (x4 ||| (0 : Int32)) → (∀ v6 : Int32, v6 = x5 + (1 : Int32) → L_X11_cutsAt_6 f1 f2 f3 K post n v5 v6 τ))) ∧ ((q_i τ 73 j3) = (1 : Int32) → (∃ j7 : Nat, x5 = nI j7 ∧ j7 < 6 ∧ (∃ j8 : Nat, (((5 : Int32) * (q_i τ 72 j7)) + f2) = nI j8 ∧ j8 < 30 ∧ (∀ v9 : Int32, v9 = (x4 ||| ((1 : Int32) <<< ((q_i τ 70 j8) &&& 31))) → (∀ v10 : Int32, v10 = x5 + (1 : Int32) → L_X11_cutsAt_6 f1 f2 f3 K post n v9 v10 τ))))))))))
def T_X11_cutsAt (a1 : Int32) (a2 : Int32) (a3 : Int32) (τ : kT) (post : Int32 → kT → Prop) : Prop := (∃ m11 : Nat, L_X11_cutsAt_6  a1 a2 a3 (fun v12 v13 τ14 => post v12 τ14) post m11 (0 : Int32) (0 : Int32) τ)
set_option maxRecDepth 100000 in
set_option maxHeartbeats 4000000 in
theorem l_X11_cutsAt_6 {d : Nat}  (f1 : Int32) (f2 : Int32) (f3 : Int32) {K : Int32 → Int32 → kT → Prop} {post : Int32 → kT → Prop} (hK : ∀ (x4 : Int32) (x5 : Int32) (τ : kT), K x4 x5 τ → U yX11_cutsAt cX11_cutsAt 6 (some .int) (d + 0) kE0 66 [some (.ref 66), some (.int f1), some (.int f2), some (.int f3), some (.int x4), some (.int x5)] [] τ (k_pi post)) : ∀ (n : Nat) (x4 : Int32) (x5 : Int32) (τ : kT), L_X11_cutsAt_6  f1 f2 f3 K post n x4 x5 τ → U yX11_cutsAt cX11_cutsAt 6 (some .int) (d + 0) kE0 6 [some (.ref 66), some (.int f1), some (.int f2), some (.int f3), some (.int x4), some (.int x5)] [] τ (k_pi post) := by
  intro n
  induction n with
  | zero => intro x4 x5 τ h; exact h.elim
  | succ n ih =>
    intro x4 x5 τ h
    unfold L_X11_cutsAt_6 at h
    refine v_iload dX11_cutsAt_6 rfl ?_
    refine v_iload_n dX11_cutsAt_8 rfl rfl ?_
    refine v_icmp_gt (tgt := 66) dX11_cutsAt_9 (by decide) (fun c1 => ?_) (fun c1 => ?_)
    · have h := h.1 c1
      exact hK x4 x5 _ h
    · have h := h.2 c1
      refine v_iload dX11_cutsAt_12 rfl ?_
      refine v_aload_n dX11_cutsAt_14 rfl rfl ?_
      refine u_getr fX11_35 dX11_cutsAt_15 sh_66 rfl (by decide) (rf_66_15 _) ?_
      refine v_bipush (v := 6) dX11_cutsAt_18 (by decide) ?_
      refine v_aload_n dX11_cutsAt_20 rfl rfl ?_
      refine u_getr fX11_32 dX11_cutsAt_21 sh_66 rfl (by decide) (rf_66_13 _) ?_
      refine v_iload dX11_cutsAt_24 rfl ?_
      obtain ⟨j2, e_j2, l_j2, h⟩ := h
      refine u_iald dX11_cutsAt_26 sh_72 (by decide) (by decide) e_j2 l_j2 ?_
      refine v_imul dX11_cutsAt_27 ?_
      refine v_iload_n dX11_cutsAt_28 rfl rfl ?_
      refine v_iadd dX11_cutsAt_29 ?_
      obtain ⟨j3, e_j3, l_j3, h⟩ := h
      refine u_iald dX11_cutsAt_30 sh_73 (by decide) (by decide) e_j3 l_j3 ?_
      refine v_iconst (v := 1) dX11_cutsAt_31 (by decide) ?_
      refine v_icmp_ne (tgt := 56) dX11_cutsAt_32 (by decide) (fun c4 => ?_) (fun c4 => ?_)
      · have h := h.1 c4
        refine v_iconst (v := 0) dX11_cutsAt_56 (by decide) ?_
        refine v_ior dX11_cutsAt_57 ?_
        refine v_topi (fun v5 e_v5 => ?_)
        have h := h v5 e_v5
        refine v_istore dX11_cutsAt_58 (by decide) rfl ?_
        refine v_ls (ls2 := [some (.ref 66), some (.int f1), some (.int f2), some (.int f3), some (.int v5), some (.int x5)]) rfl ?_
        obtain ⟨v6, e_v6⟩ : ∃ z : Int32, z = x5 + (1 : Int32) := ⟨_, rfl⟩
        have h := h v6 e_v6
        refine v_iinc (v := v6) dX11_cutsAt_60 rfl (by rw [e_v6]; rfl) (by decide) rfl ?_
        refine v_ls (ls2 := [some (.ref 66), some (.int f1), some (.int f2), some (.int f3), some (.int v5), some (.int v6)]) rfl ?_
        refine v_goto (tgt := 6) dX11_cutsAt_63 (by decide) ?_
        exact ih v5 v6 _ h
      · have h := h.2 c4
        refine v_iconst (v := 1) dX11_cutsAt_35 (by decide) ?_
        refine v_aload_n dX11_cutsAt_36 rfl rfl ?_
        refine u_getr fX11_26 dX11_cutsAt_37 sh_66 rfl (by decide) (rf_66_11 _) ?_
        refine v_iconst (v := 5) dX11_cutsAt_40 (by decide) ?_
        refine v_aload_n dX11_cutsAt_41 rfl rfl ?_
        refine u_getr fX11_32 dX11_cutsAt_42 sh_66 rfl (by decide) (rf_66_13 _) ?_
        refine v_iload dX11_cutsAt_45 rfl ?_
        obtain ⟨j7, e_j7, l_j7, h⟩ := h
        refine u_iald dX11_cutsAt_47 sh_72 (by decide) (by decide) e_j7 l_j7 ?_
        refine v_imul dX11_cutsAt_48 ?_
        refine v_iload_n dX11_cutsAt_49 rfl rfl ?_
        refine v_iadd dX11_cutsAt_50 ?_
        obtain ⟨j8, e_j8, l_j8, h⟩ := h
        refine u_iald dX11_cutsAt_51 sh_70 (by decide) (by decide) e_j8 l_j8 ?_
        refine v_ishl dX11_cutsAt_52 ?_
        refine v_goto (tgt := 57) dX11_cutsAt_53 (by decide) ?_
        refine v_ior dX11_cutsAt_57 ?_
        refine v_topi (fun v9 e_v9 => ?_)
        have h := h v9 e_v9
        refine v_istore dX11_cutsAt_58 (by decide) rfl ?_
        refine v_ls (ls2 := [some (.ref 66), some (.int f1), some (.int f2), some (.int f3), some (.int v9), some (.int x5)]) rfl ?_
        obtain ⟨v10, e_v10⟩ : ∃ z : Int32, z = x5 + (1 : Int32) := ⟨_, rfl⟩
        have h := h v10 e_v10
        refine v_iinc (v := v10) dX11_cutsAt_60 rfl (by rw [e_v10]; rfl) (by decide) rfl ?_
        refine v_ls (ls2 := [some (.ref 66), some (.int f1), some (.int f2), some (.int f3), some (.int v9), some (.int v10)]) rfl ?_
        refine v_goto (tgt := 6) dX11_cutsAt_63 (by decide) ?_
        exact ih v9 v10 _ h
set_option maxRecDepth 100000 in
set_option maxHeartbeats 4000000 in
theorem v_X11_cutsAt {d : Nat}  (a1 : Int32) (a2 : Int32) (a3 : Int32) (τ : kT) (post : Int32 → kT → Prop) (h : T_X11_cutsAt  a1 a2 a3 τ post) : U yX11_cutsAt cX11_cutsAt 6 (some .int) (d + 0) kE0 0 [some (.ref 66), some (.int a1), some (.int a2), some (.int a3), none, none] [] τ (k_pi post) := by
  unfold T_X11_cutsAt at h
  refine v_iconst (v := 0) dX11_cutsAt_0 (by decide) ?_
  refine v_istore dX11_cutsAt_1 (by decide) rfl ?_
  refine v_ls (ls2 := [some (.ref 66), some (.int a1), some (.int a2), some (.int a3), some (.int (0 : Int32)), none]) rfl ?_
  refine v_iconst (v := 0) dX11_cutsAt_3 (by decide) ?_
  refine v_istore dX11_cutsAt_4 (by decide) rfl ?_
  refine v_ls (ls2 := [some (.ref 66), some (.int a1), some (.int a2), some (.int a3), some (.int (0 : Int32)), some (.int (0 : Int32))]) rfl ?_
  obtain ⟨m11, h⟩ := h
  refine l_X11_cutsAt_6  a1 a2 a3 (fun v12 v13 τ14 h => ?_) m11 (0 : Int32) (0 : Int32) _ h
  refine v_iload dX11_cutsAt_66 rfl ?_
  exact u_iret dX11_cutsAt_68 ⟨rfl, id⟩ h
def L_X11_areAlike_6  (f1 : Int32) (f2 : Int32) (f3 : Int32) (K : Int32 → Int32 → kT → Prop) (post : Int32 → kT → Prop) : Nat → Int32 → Int32 → kT → Prop
  | 0, _, _, _ => False
  | n + 1, x4, x5, τ => ((f3 ≤ x5 → K x4 x5 τ) ∧ (¬ f3 ≤ x5 → ((x4 = 0 → (∀ v3 : Int32, v3 = x5 + (1 : Int32) → L_X11_areAlike_6 f1 f2 f3 K post n (0 : Int32) v3 τ)) ∧ (¬ x4 = 0 → (∃ j4 : Nat, (((5 : Int32) * f1) + x5) = nI j4 ∧ j4 < 30 ∧ (∃ j5 : Nat, (((5 : Int32) * f2) + x5) = nI j5 ∧ j5 < 30 ∧ ((¬ (q_i τ 70 j4) = (q_i τ 70 j5) → (∀ v7 : Int32, v7 = x5 + (1 : Int32) → L_X11_areAlike_6 f1 f2 f3 K post n (0 : Int32) v7 τ)) ∧ ((q_i τ 70 j4) = (q_i τ 70 j5) → (∀ v8 : Int32, v8 = x5 + (1 : Int32) → L_X11_areAlike_6 f1 f2 f3 K post n (1 : Int32) v8 τ)))))))))
def T_X11_areAlike (a1 : Int32) (a2 : Int32) (a3 : Int32) (τ : kT) (post : Int32 → kT → Prop) : Prop := (∃ m9 : Nat, L_X11_areAlike_6  a1 a2 a3 (fun v10 v11 τ12 => ((v10 = 0 ∨ v10 = 1) ∧ post v10 τ12)) post m9 (1 : Int32) (0 : Int32) τ)
set_option maxRecDepth 100000 in
set_option maxHeartbeats 4000000 in
theorem l_X11_areAlike_6 {d : Nat}  (f1 : Int32) (f2 : Int32) (f3 : Int32) {K : Int32 → Int32 → kT → Prop} {post : Int32 → kT → Prop} (hK : ∀ (x4 : Int32) (x5 : Int32) (τ : kT), K x4 x5 τ → U yX11_areAlike cX11_areAlike 6 (some .boolean) (d + 0) kE0 55 [some (.ref 66), some (.int f1), some (.int f2), some (.int f3), some (.int x4), some (.int x5)] [] τ (k_pi post)) : ∀ (n : Nat) (x4 : Int32) (x5 : Int32) (τ : kT), L_X11_areAlike_6  f1 f2 f3 K post n x4 x5 τ → U yX11_areAlike cX11_areAlike 6 (some .boolean) (d + 0) kE0 6 [some (.ref 66), some (.int f1), some (.int f2), some (.int f3), some (.int x4), some (.int x5)] [] τ (k_pi post) := by
  intro n
  induction n with
  | zero => intro x4 x5 τ h; exact h.elim
  | succ n ih =>
    intro x4 x5 τ h
    unfold L_X11_areAlike_6 at h
    refine v_iload dX11_areAlike_6 rfl ?_
    refine v_iload_n dX11_areAlike_8 rfl rfl ?_
    refine v_icmp_ge (tgt := 55) dX11_areAlike_9 (by decide) (fun c1 => ?_) (fun c1 => ?_)
    · have h := h.1 c1
      exact hK x4 x5 _ h
    · have h := h.2 c1
      refine v_iload dX11_areAlike_12 rfl ?_
      refine v_if_eq (tgt := 46) dX11_areAlike_14 (by decide) (fun c2 => ?_) (fun c2 => ?_)
      · have h := h.1 c2
        refine v_iconst (v := 0) dX11_areAlike_46 (by decide) ?_
        refine v_istore dX11_areAlike_47 (by decide) rfl ?_
        refine v_ls (ls2 := [some (.ref 66), some (.int f1), some (.int f2), some (.int f3), some (.int (0 : Int32)), some (.int x5)]) rfl ?_
        obtain ⟨v3, e_v3⟩ : ∃ z : Int32, z = x5 + (1 : Int32) := ⟨_, rfl⟩
        have h := h v3 e_v3
        refine v_iinc (v := v3) dX11_areAlike_49 rfl (by rw [e_v3]; rfl) (by decide) rfl ?_
        refine v_ls (ls2 := [some (.ref 66), some (.int f1), some (.int f2), some (.int f3), some (.int (0 : Int32)), some (.int v3)]) rfl ?_
        refine v_goto (tgt := 6) dX11_areAlike_52 (by decide) ?_
        exact ih (0 : Int32) v3 _ h
      · have h := h.2 c2
        refine v_aload_n dX11_areAlike_17 rfl rfl ?_
        refine u_getr fX11_26 dX11_areAlike_18 sh_66 rfl (by decide) (rf_66_11 _) ?_
        refine v_iconst (v := 5) dX11_areAlike_21 (by decide) ?_
        refine v_iload_n dX11_areAlike_22 rfl rfl ?_
        refine v_imul dX11_areAlike_23 ?_
        refine v_iload dX11_areAlike_24 rfl ?_
        refine v_iadd dX11_areAlike_26 ?_
        obtain ⟨j4, e_j4, l_j4, h⟩ := h
        refine u_iald dX11_areAlike_27 sh_70 (by decide) (by decide) e_j4 l_j4 ?_
        refine v_aload_n dX11_areAlike_28 rfl rfl ?_
        refine u_getr fX11_26 dX11_areAlike_29 sh_66 rfl (by decide) (rf_66_11 _) ?_
        refine v_iconst (v := 5) dX11_areAlike_32 (by decide) ?_
        refine v_iload_n dX11_areAlike_33 rfl rfl ?_
        refine v_imul dX11_areAlike_34 ?_
        refine v_iload dX11_areAlike_35 rfl ?_
        refine v_iadd dX11_areAlike_37 ?_
        obtain ⟨j5, e_j5, l_j5, h⟩ := h
        refine u_iald dX11_areAlike_38 sh_70 (by decide) (by decide) e_j5 l_j5 ?_
        refine v_icmp_ne (tgt := 46) dX11_areAlike_39 (by decide) (fun c6 => ?_) (fun c6 => ?_)
        · have h := h.1 c6
          refine v_iconst (v := 0) dX11_areAlike_46 (by decide) ?_
          refine v_istore dX11_areAlike_47 (by decide) rfl ?_
          refine v_ls (ls2 := [some (.ref 66), some (.int f1), some (.int f2), some (.int f3), some (.int (0 : Int32)), some (.int x5)]) rfl ?_
          obtain ⟨v7, e_v7⟩ : ∃ z : Int32, z = x5 + (1 : Int32) := ⟨_, rfl⟩
          have h := h v7 e_v7
          refine v_iinc (v := v7) dX11_areAlike_49 rfl (by rw [e_v7]; rfl) (by decide) rfl ?_
          refine v_ls (ls2 := [some (.ref 66), some (.int f1), some (.int f2), some (.int f3), some (.int (0 : Int32)), some (.int v7)]) rfl ?_
          refine v_goto (tgt := 6) dX11_areAlike_52 (by decide) ?_
          exact ih (0 : Int32) v7 _ h
        · have h := h.2 c6
          refine v_iconst (v := 1) dX11_areAlike_42 (by decide) ?_
          refine v_goto (tgt := 47) dX11_areAlike_43 (by decide) ?_
          refine v_istore dX11_areAlike_47 (by decide) rfl ?_
          refine v_ls (ls2 := [some (.ref 66), some (.int f1), some (.int f2), some (.int f3), some (.int (1 : Int32)), some (.int x5)]) rfl ?_
          obtain ⟨v8, e_v8⟩ : ∃ z : Int32, z = x5 + (1 : Int32) := ⟨_, rfl⟩
          have h := h v8 e_v8
          refine v_iinc (v := v8) dX11_areAlike_49 rfl (by rw [e_v8]; rfl) (by decide) rfl ?_
          refine v_ls (ls2 := [some (.ref 66), some (.int f1), some (.int f2), some (.int f3), some (.int (1 : Int32)), some (.int v8)]) rfl ?_
          refine v_goto (tgt := 6) dX11_areAlike_52 (by decide) ?_
          exact ih (1 : Int32) v8 _ h
set_option maxRecDepth 100000 in
set_option maxHeartbeats 4000000 in
theorem v_X11_areAlike {d : Nat}  (a1 : Int32) (a2 : Int32) (a3 : Int32) (τ : kT) (post : Int32 → kT → Prop) (h : T_X11_areAlike  a1 a2 a3 τ post) : U yX11_areAlike cX11_areAlike 6 (some .boolean) (d + 0) kE0 0 [some (.ref 66), some (.int a1), some (.int a2), some (.int a3), none, none] [] τ (k_pi post) := by
  unfold T_X11_areAlike at h
  refine v_iconst (v := 1) dX11_areAlike_0 (by decide) ?_
  refine v_istore dX11_areAlike_1 (by decide) rfl ?_
  refine v_ls (ls2 := [some (.ref 66), some (.int a1), some (.int a2), some (.int a3), some (.int (1 : Int32)), none]) rfl ?_
  refine v_iconst (v := 0) dX11_areAlike_3 (by decide) ?_
  refine v_istore dX11_areAlike_4 (by decide) rfl ?_
  refine v_ls (ls2 := [some (.ref 66), some (.int a1), some (.int a2), some (.int a3), some (.int (1 : Int32)), some (.int (0 : Int32))]) rfl ?_
  obtain ⟨m9, h⟩ := h
  refine l_X11_areAlike_6  a1 a2 a3 (fun v10 v11 τ12 h => ?_) m9 (1 : Int32) (0 : Int32) _ h
  refine v_iload dX11_areAlike_55 rfl ?_
  exact u_zret dX11_areAlike_57 (k_nz h.1) ⟨rfl, id⟩ h.2
