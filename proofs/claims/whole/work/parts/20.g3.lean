def L_X11_stands_76  (f1 : Int32) (f2 : Int32) (f3 : Int32) (f4 : Int32) (f5 : Int32) (f6 : Int32) (f7 : Int32) (f8 : Int32) (f9 : Int32) (K : Int32 → kT → Prop) (post : Int32 → kT → Prop) : Nat → Int32 → kT → Prop
  | 0, _, _ => False
  | n + 1, x10, τ => ((f3 ≤ x10 → K x10 τ) ∧ (¬ f3 ≤ x10 → (∃ j9 : Nat, (((6 : Int32) * f7) + x10) = nI j9 ∧ j9 < 36 ∧ ((¬ (q_i τ 73 j9) = (1 : Int32) → (∀ v11 : Int32, v11 = x10 + (1 : Int32) → L_X11_stands_76 f1 f2 f3 f4 f5 f6 f7 f8 f9 K post n v11 τ)) ∧ ((q_i τ 73 j9) = (1 : Int32) → (T_X11_cutsAt x10 f8 f6 τ (fun r12 τ13 => (T_X11_bits r12 τ13 (fun r14 τ15 => (∃ j16 : Nat, ((4464 : Int32) + x10) = nI j16 ∧ j16 < 8530 ∧ (∃ j17 : Nat, ((0 : Int32) + (q_i τ15 67 j16)) = nI j17 ∧ j17 < 8530 ∧ (T_X11_most (q_i τ15 67 j17) τ15 (fun r18 τ19 => ((r14 ≤ r18 → (∀ v21 : Int32, v21 = x10 + (1 : Int32) → L_X11_stands_76 f1 f2 f3 f4 f5 f6 f7 f8 f9 K post n v21 τ19)) ∧ (¬ r14 ≤ r18 → post (0 : Int32) τ19)))))))))))))))
def L_X11_stands_150  (f1 : Int32) (f2 : Int32) (f3 : Int32) (f4 : Int32) (f5 : Int32) (f6 : Int32) (f7 : Int32) (f8 : Int32) (f9 : Int32) (K : Int32 → Int32 → kT → Prop) (post : Int32 → kT → Prop) : Nat → Int32 → Int32 → kT → Prop
  | 0, _, _, _ => False
  | n + 1, x10, x11, τ => ((f6 ≤ x11 → K x10 x11 τ) ∧ (¬ f6 ≤ x11 → ((¬ f8 = (f4 - (1 : Int32)) → K x10 x11 τ) ∧ (f8 = (f4 - (1 : Int32)) → ((x10 = 0 → (∀ v28 : Int32, v28 = x11 + (1 : Int32) → L_X11_stands_150 f1 f2 f3 f4 f5 f6 f7 f8 f9 K post n (0 : Int32) v28 τ)) ∧ (¬ x10 = 0 → (∃ j29 : Nat, x11 = nI j29 ∧ j29 < 6 ∧ (T_X11_areAlike f7 (q_i τ 72 j29) f4 τ (fun r30 τ31 => ((¬ r30 = 0 → (∀ v33 : Int32, v33 = x11 + (1 : Int32) → L_X11_stands_150 f1 f2 f3 f4 f5 f6 f7 f8 f9 K post n (0 : Int32) v33 τ31)) ∧ (r30 = 0 → (∀ v34 : Int32, v34 = x11 + (1 : Int32) → L_X11_stands_150 f1 f2 f3 f4 f5 f6 f7 f8 f9 K post n (1 : Int32) v34 τ31))))))))))))
def T_X11_stands (a1 : Int32) (a2 : Int32) (a3 : Int32) (a4 : Int32) (a5 : Int32) (τ : kT) (post : Int32 → kT → Prop) : Prop := ((¬ a4 = 0) ∧ (∀ v1 : Int32, v1 = (a1 / a4) → (∃ j2 : Nat, v1 = nI j2 ∧ j2 < 6 ∧ (∀ v3 : Int32, v3 = (q_i τ 72 j2) → ((¬ a4 = 0) ∧ (∀ v4 : Int32, v4 = (a1 - a1 / a4 * a4) → (∃ j5 : Nat, (((5 : Int32) * v3) + v4) = nI j5 ∧ j5 < 30 ∧ (∀ v6 : Int32, v6 = (q_i τ 70 j5) → ((v4 ≤ 0 → (∃ m22 : Nat, L_X11_stands_76  a1 a2 a3 a4 a5 v1 v3 v4 v6 (fun v23 τ24 => (∃ m35 : Nat, L_X11_stands_150  a1 a2 a3 a4 a5 v1 v3 v4 v6 (fun v36 v37 τ38 => ((v36 = 0 → post (0 : Int32) τ38) ∧ (¬ v36 = 0 → ((v4 < (a4 - (1 : Int32)) → post (1 : Int32) τ38) ∧ (¬ v4 < (a4 - (1 : Int32)) → ((a2 = (-1 : Int32) → post (1 : Int32) τ38) ∧ (¬ a2 = (-1 : Int32) → (T_X11_areAlike v3 a2 a4 τ38 (fun r42 τ43 => ((¬ r42 = 0 → post (0 : Int32) τ43) ∧ (r42 = 0 → post (1 : Int32) τ43))))))))))) post m35 (1 : Int32) (0 : Int32) τ24)) post m22 (0 : Int32) τ)) ∧ (¬ v4 ≤ 0 → (∃ j45 : Nat, ((((5 : Int32) * v3) + v4) - (1 : Int32)) = nI j45 ∧ j45 < 30 ∧ (T_X11_in (((v6 - (q_i τ 70 j45))).toInt64) (((-a5)).toInt64) ((a5).toInt64) τ (fun r46 τ47 => ((¬ r46 = 0 → (∃ m49 : Nat, L_X11_stands_76  a1 a2 a3 a4 a5 v1 v3 v4 v6 (fun v50 τ51 => (∃ m52 : Nat, L_X11_stands_150  a1 a2 a3 a4 a5 v1 v3 v4 v6 (fun v53 v54 τ55 => ((v53 = 0 → post (0 : Int32) τ55) ∧ (¬ v53 = 0 → ((v4 < (a4 - (1 : Int32)) → post (1 : Int32) τ55) ∧ (¬ v4 < (a4 - (1 : Int32)) → ((a2 = (-1 : Int32) → post (1 : Int32) τ55) ∧ (¬ a2 = (-1 : Int32) → (T_X11_areAlike v3 a2 a4 τ55 (fun r59 τ60 => ((¬ r59 = 0 → post (0 : Int32) τ60) ∧ (r59 = 0 → post (1 : Int32) τ60))))))))))) post m52 (1 : Int32) (0 : Int32) τ51)) post m49 (0 : Int32) τ47)) ∧ (r46 = 0 → post (0 : Int32) τ47)))))))))))))))
set_option maxRecDepth 100000 in
set_option maxHeartbeats 4000000 in
theorem l_X11_stands_76 {d : Nat}  (f1 : Int32) (f2 : Int32) (f3 : Int32) (f4 : Int32) (f5 : Int32) (f6 : Int32) (f7 : Int32) (f8 : Int32) (f9 : Int32) {K : Int32 → kT → Prop} {post : Int32 → kT → Prop} (hK : ∀ (x10 : Int32) (τ : kT), K x10 τ → U yX11_stands cX11_stands 12 (some .boolean) (d + 1) kE0 144 [some (.ref 66), some (.int f1), some (.int f2), some (.int f3), some (.int f4), some (.int f5), some (.int f6), some (.int f7), some (.int f8), some (.int f9), some (.int x10), none] [] τ (k_pi post)) : ∀ (n : Nat) (x10 : Int32) (τ : kT), L_X11_stands_76  f1 f2 f3 f4 f5 f6 f7 f8 f9 K post n x10 τ → U yX11_stands cX11_stands 12 (some .boolean) (d + 1) kE0 76 [some (.ref 66), some (.int f1), some (.int f2), some (.int f3), some (.int f4), some (.int f5), some (.int f6), some (.int f7), some (.int f8), some (.int f9), some (.int x10), none] [] τ (k_pi post) := by
  intro n
  induction n with
  | zero => intro x10 τ h; exact h.elim
  | succ n ih =>
    intro x10 τ h
    unfold L_X11_stands_76 at h
    refine v_iload dX11_stands_76 rfl ?_
    refine v_iload_n dX11_stands_78 rfl rfl ?_
    refine v_icmp_ge (tgt := 144) dX11_stands_79 (by decide) (fun c8 => ?_) (fun c8 => ?_)
    · have h := h.1 c8
      exact hK x10 _ h
    · have h := h.2 c8
      refine v_aload_n dX11_stands_82 rfl rfl ?_
      refine u_getr fX11_35 dX11_stands_83 sh_66 rfl (by decide) (rf_66_15 _) ?_
      refine v_bipush (v := 6) dX11_stands_86 (by decide) ?_
      refine v_iload dX11_stands_88 rfl ?_
      refine v_imul dX11_stands_90 ?_
      refine v_iload dX11_stands_91 rfl ?_
      refine v_iadd dX11_stands_93 ?_
      obtain ⟨j9, e_j9, l_j9, h⟩ := h
      refine u_iald dX11_stands_94 sh_73 (by decide) (by decide) e_j9 l_j9 ?_
      refine v_iconst (v := 1) dX11_stands_95 (by decide) ?_
      refine v_icmp_ne (tgt := 138) dX11_stands_96 (by decide) (fun c10 => ?_) (fun c10 => ?_)
      · have h := h.1 c10
        obtain ⟨v11, e_v11⟩ : ∃ z : Int32, z = x10 + (1 : Int32) := ⟨_, rfl⟩
        have h := h v11 e_v11
        refine v_iinc (v := v11) dX11_stands_138 rfl (by rw [e_v11]; rfl) (by decide) rfl ?_
        refine v_ls (ls2 := [some (.ref 66), some (.int f1), some (.int f2), some (.int f3), some (.int f4), some (.int f5), some (.int f6), some (.int f7), some (.int f8), some (.int f9), some (.int v11), none]) rfl ?_
        refine v_goto (tgt := 76) dX11_stands_141 (by decide) ?_
        exact ih v11 _ h
      · have h := h.2 c10
        refine v_aload_n dX11_stands_99 rfl rfl ?_
        refine v_iload dX11_stands_100 rfl ?_
        refine v_iload dX11_stands_102 rfl ?_
        refine v_iload dX11_stands_104 rfl ?_
        refine u_callV [.int x10, .int f8, .int f6] mX11_cutsAt iX11_cutsAt lX11_188 dX11_stands_106 sh_66 rfl rfl (by decide) ⟨rfl, rfl, id⟩ rfl rfl (Nat.le_of_ble_eq_true rfl) (Nat.le_of_ble_eq_true rfl) (v_X11_cutsAt x10 f8 f6 _ _ h) ?_
        rintro _ τ13 ⟨r12, rfl, h⟩
        refine u_callS [.int r12] mX11_bits sX11_bits lX11_97 dX11_stands_109 ⟨rfl, rfl, id⟩ rfl rfl (Nat.le_of_ble_eq_true rfl) (Nat.le_of_ble_eq_true rfl) (v_X11_bits r12 _ _ h) ?_
        rintro _ τ15 ⟨r14, rfl, h⟩
        refine v_aload_n dX11_stands_112 rfl rfl ?_
        refine u_getr fX11_7 dX11_stands_113 sh_66 rfl (by decide) (rf_66_0 _) ?_
        refine v_iconst (v := 0) dX11_stands_116 (by decide) ?_
        refine v_aload_n dX11_stands_117 rfl rfl ?_
        refine u_getr fX11_7 dX11_stands_118 sh_66 rfl (by decide) (rf_66_0 _) ?_
        refine v_sipush (v := 4464) dX11_stands_121 (by decide) ?_
        refine v_iload dX11_stands_124 rfl ?_
        refine v_iadd dX11_stands_126 ?_
        obtain ⟨j16, e_j16, l_j16, h⟩ := h
        refine u_iald dX11_stands_127 sh_67 (by decide) (by decide) e_j16 l_j16 ?_
        refine v_iadd dX11_stands_128 ?_
        obtain ⟨j17, e_j17, l_j17, h⟩ := h
        refine u_iald dX11_stands_129 sh_67 (by decide) (by decide) e_j17 l_j17 ?_
        refine u_callS [.int (q_i τ15 67 j17)] mX11_most sX11_most lX11_100 dX11_stands_130 ⟨rfl, rfl, id⟩ rfl rfl (Nat.le_of_ble_eq_true rfl) (Nat.le_of_ble_eq_true rfl) (v_X11_most (q_i τ15 67 j17) _ _ h) ?_
        rintro _ τ19 ⟨r18, rfl, h⟩
        refine v_icmp_le (tgt := 138) dX11_stands_133 (by decide) (fun c20 => ?_) (fun c20 => ?_)
        · have h := h.1 c20
          obtain ⟨v21, e_v21⟩ : ∃ z : Int32, z = x10 + (1 : Int32) := ⟨_, rfl⟩
          have h := h v21 e_v21
          refine v_iinc (v := v21) dX11_stands_138 rfl (by rw [e_v21]; rfl) (by decide) rfl ?_
          refine v_ls (ls2 := [some (.ref 66), some (.int f1), some (.int f2), some (.int f3), some (.int f4), some (.int f5), some (.int f6), some (.int f7), some (.int f8), some (.int f9), some (.int v21), none]) rfl ?_
          refine v_goto (tgt := 76) dX11_stands_141 (by decide) ?_
          exact ih v21 _ h
        · have h := h.2 c20
          refine v_iconst (v := 0) dX11_stands_136 (by decide) ?_
          exact u_zret dX11_stands_137 rfl ⟨rfl, id⟩ h
set_option maxRecDepth 100000 in
set_option maxHeartbeats 4000000 in
theorem l_X11_stands_150 {d : Nat}  (f1 : Int32) (f2 : Int32) (f3 : Int32) (f4 : Int32) (f5 : Int32) (f6 : Int32) (f7 : Int32) (f8 : Int32) (f9 : Int32) {K : Int32 → Int32 → kT → Prop} {post : Int32 → kT → Prop} (hK : ∀ (x10 : Int32) (x11 : Int32) (τ : kT), K x10 x11 τ → U yX11_stands cX11_stands 12 (some .boolean) (d + 1) kE0 202 [some (.ref 66), some (.int f1), some (.int f2), some (.int f3), some (.int f4), some (.int f5), some (.int f6), some (.int f7), some (.int f8), some (.int f9), some (.int x10), some (.int x11)] [] τ (k_pi post)) : ∀ (n : Nat) (x10 : Int32) (x11 : Int32) (τ : kT), L_X11_stands_150  f1 f2 f3 f4 f5 f6 f7 f8 f9 K post n x10 x11 τ → U yX11_stands cX11_stands 12 (some .boolean) (d + 1) kE0 150 [some (.ref 66), some (.int f1), some (.int f2), some (.int f3), some (.int f4), some (.int f5), some (.int f6), some (.int f7), some (.int f8), some (.int f9), some (.int x10), some (.int x11)] [] τ (k_pi post) := by
  intro n
  induction n with
  | zero => intro x10 x11 τ h; exact h.elim
  | succ n ih =>
    intro x10 x11 τ h
    unfold L_X11_stands_150 at h
    refine v_iload dX11_stands_150 rfl ?_
    refine v_iload dX11_stands_152 rfl ?_
    refine v_icmp_ge (tgt := 202) dX11_stands_154 (by decide) (fun c25 => ?_) (fun c25 => ?_)
    · have h := h.1 c25
      exact hK x10 x11 _ h
    · have h := h.2 c25
      refine v_iload dX11_stands_157 rfl ?_
      refine v_iload dX11_stands_159 rfl ?_
      refine v_iconst (v := 1) dX11_stands_161 (by decide) ?_
      refine v_isub dX11_stands_162 ?_
      refine v_icmp_ne (tgt := 202) dX11_stands_163 (by decide) (fun c26 => ?_) (fun c26 => ?_)
      · have h := h.1 c26
        exact hK x10 x11 _ h
      · have h := h.2 c26
        refine v_iload dX11_stands_166 rfl ?_
        refine v_if_eq (tgt := 193) dX11_stands_168 (by decide) (fun c27 => ?_) (fun c27 => ?_)
        · have h := h.1 c27
          refine v_iconst (v := 0) dX11_stands_193 (by decide) ?_
          refine v_istore dX11_stands_194 (by decide) rfl ?_
          refine v_ls (ls2 := [some (.ref 66), some (.int f1), some (.int f2), some (.int f3), some (.int f4), some (.int f5), some (.int f6), some (.int f7), some (.int f8), some (.int f9), some (.int (0 : Int32)), some (.int x11)]) rfl ?_
          obtain ⟨v28, e_v28⟩ : ∃ z : Int32, z = x11 + (1 : Int32) := ⟨_, rfl⟩
          have h := h v28 e_v28
          refine v_iinc (v := v28) dX11_stands_196 rfl (by rw [e_v28]; rfl) (by decide) rfl ?_
          refine v_ls (ls2 := [some (.ref 66), some (.int f1), some (.int f2), some (.int f3), some (.int f4), some (.int f5), some (.int f6), some (.int f7), some (.int f8), some (.int f9), some (.int (0 : Int32)), some (.int v28)]) rfl ?_
          refine v_goto (tgt := 150) dX11_stands_199 (by decide) ?_
          exact ih (0 : Int32) v28 _ h
        · have h := h.2 c27
          refine v_aload_n dX11_stands_171 rfl rfl ?_
          refine v_iload dX11_stands_172 rfl ?_
          refine v_aload_n dX11_stands_174 rfl rfl ?_
          refine u_getr fX11_32 dX11_stands_175 sh_66 rfl (by decide) (rf_66_13 _) ?_
          refine v_iload dX11_stands_178 rfl ?_
          obtain ⟨j29, e_j29, l_j29, h⟩ := h
          refine u_iald dX11_stands_180 sh_72 (by decide) (by decide) e_j29 l_j29 ?_
          refine v_iload dX11_stands_181 rfl ?_
          refine u_callV [.int f7, .int (q_i τ 72 j29), .int f4] mX11_areAlike iX11_areAlike lX11_192 dX11_stands_183 sh_66 rfl rfl (by decide) ⟨rfl, rfl, id⟩ rfl rfl (Nat.le_of_ble_eq_true rfl) (Nat.le_of_ble_eq_true rfl) (v_X11_areAlike f7 (q_i τ 72 j29) f4 _ _ h) ?_
          rintro _ τ31 ⟨r30, rfl, h⟩
          refine v_if_ne (tgt := 193) dX11_stands_186 (by decide) (fun c32 => ?_) (fun c32 => ?_)
          · have h := h.1 c32
            refine v_iconst (v := 0) dX11_stands_193 (by decide) ?_
            refine v_istore dX11_stands_194 (by decide) rfl ?_
            refine v_ls (ls2 := [some (.ref 66), some (.int f1), some (.int f2), some (.int f3), some (.int f4), some (.int f5), some (.int f6), some (.int f7), some (.int f8), some (.int f9), some (.int (0 : Int32)), some (.int x11)]) rfl ?_
            obtain ⟨v33, e_v33⟩ : ∃ z : Int32, z = x11 + (1 : Int32) := ⟨_, rfl⟩
            have h := h v33 e_v33
            refine v_iinc (v := v33) dX11_stands_196 rfl (by rw [e_v33]; rfl) (by decide) rfl ?_
            refine v_ls (ls2 := [some (.ref 66), some (.int f1), some (.int f2), some (.int f3), some (.int f4), some (.int f5), some (.int f6), some (.int f7), some (.int f8), some (.int f9), some (.int (0 : Int32)), some (.int v33)]) rfl ?_
            refine v_goto (tgt := 150) dX11_stands_199 (by decide) ?_
            exact ih (0 : Int32) v33 _ h
          · have h := h.2 c32
            refine v_iconst (v := 1) dX11_stands_189 (by decide) ?_
            refine v_goto (tgt := 194) dX11_stands_190 (by decide) ?_
            refine v_istore dX11_stands_194 (by decide) rfl ?_
            refine v_ls (ls2 := [some (.ref 66), some (.int f1), some (.int f2), some (.int f3), some (.int f4), some (.int f5), some (.int f6), some (.int f7), some (.int f8), some (.int f9), some (.int (1 : Int32)), some (.int x11)]) rfl ?_
            obtain ⟨v34, e_v34⟩ : ∃ z : Int32, z = x11 + (1 : Int32) := ⟨_, rfl⟩
            have h := h v34 e_v34
            refine v_iinc (v := v34) dX11_stands_196 rfl (by rw [e_v34]; rfl) (by decide) rfl ?_
            refine v_ls (ls2 := [some (.ref 66), some (.int f1), some (.int f2), some (.int f3), some (.int f4), some (.int f5), some (.int f6), some (.int f7), some (.int f8), some (.int f9), some (.int (1 : Int32)), some (.int v34)]) rfl ?_
            refine v_goto (tgt := 150) dX11_stands_199 (by decide) ?_
            exact ih (1 : Int32) v34 _ h
set_option maxRecDepth 100000 in
set_option maxHeartbeats 4000000 in
theorem v_X11_stands {d : Nat}  (a1 : Int32) (a2 : Int32) (a3 : Int32) (a4 : Int32) (a5 : Int32) (τ : kT) (post : Int32 → kT → Prop) (h : T_X11_stands  a1 a2 a3 a4 a5 τ post) : U yX11_stands cX11_stands 12 (some .boolean) (d + 1) kE0 0 [some (.ref 66), some (.int a1), some (.int a2), some (.int a3), some (.int a4), some (.int a5), none, none, none, none, none, none] [] τ (k_pi post) := by
  unfold T_X11_stands at h
  refine v_iload_n dX11_stands_0 rfl rfl ?_
  refine v_iload dX11_stands_1 rfl ?_
  obtain ⟨e_0, h⟩ := h
  refine v_idiv dX11_stands_3 e_0 ?_
  refine v_topi (fun v1 e_v1 => ?_)
  have h := h v1 e_v1
  refine v_istore dX11_stands_4 (by decide) rfl ?_
  refine v_ls (ls2 := [some (.ref 66), some (.int a1), some (.int a2), some (.int a3), some (.int a4), some (.int a5), some (.int v1), none, none, none, none, none]) rfl ?_
  refine v_aload_n dX11_stands_6 rfl rfl ?_
  refine u_getr fX11_32 dX11_stands_7 sh_66 rfl (by decide) (rf_66_13 _) ?_
  refine v_iload dX11_stands_10 rfl ?_
  obtain ⟨j2, e_j2, l_j2, h⟩ := h
  refine u_iald dX11_stands_12 sh_72 (by decide) (by decide) e_j2 l_j2 ?_
  refine v_topi (fun v3 e_v3 => ?_)
  have h := h v3 e_v3
  refine v_istore dX11_stands_13 (by decide) rfl ?_
  refine v_ls (ls2 := [some (.ref 66), some (.int a1), some (.int a2), some (.int a3), some (.int a4), some (.int a5), some (.int v1), some (.int v3), none, none, none, none]) rfl ?_
  refine v_iload_n dX11_stands_15 rfl rfl ?_
  refine v_iload dX11_stands_16 rfl ?_
  obtain ⟨e_0, h⟩ := h
  refine v_irem dX11_stands_18 e_0 ?_
  refine v_topi (fun v4 e_v4 => ?_)
  have h := h v4 e_v4
  refine v_istore dX11_stands_19 (by decide) rfl ?_
  refine v_ls (ls2 := [some (.ref 66), some (.int a1), some (.int a2), some (.int a3), some (.int a4), some (.int a5), some (.int v1), some (.int v3), some (.int v4), none, none, none]) rfl ?_
  refine v_aload_n dX11_stands_21 rfl rfl ?_
  refine u_getr fX11_26 dX11_stands_22 sh_66 rfl (by decide) (rf_66_11 _) ?_
  refine v_iconst (v := 5) dX11_stands_25 (by decide) ?_
  refine v_iload dX11_stands_26 rfl ?_
  refine v_imul dX11_stands_28 ?_
  refine v_iload dX11_stands_29 rfl ?_
  refine v_iadd dX11_stands_31 ?_
  obtain ⟨j5, e_j5, l_j5, h⟩ := h
  refine u_iald dX11_stands_32 sh_70 (by decide) (by decide) e_j5 l_j5 ?_
  refine v_topi (fun v6 e_v6 => ?_)
  have h := h v6 e_v6
  refine v_istore dX11_stands_33 (by decide) rfl ?_
  refine v_ls (ls2 := [some (.ref 66), some (.int a1), some (.int a2), some (.int a3), some (.int a4), some (.int a5), some (.int v1), some (.int v3), some (.int v4), some (.int v6), none, none]) rfl ?_
  refine v_iload dX11_stands_35 rfl ?_
  refine v_if_le (tgt := 73) dX11_stands_37 (by decide) (fun c7 => ?_) (fun c7 => ?_)
  · have h := h.1 c7
    refine v_iconst (v := 0) dX11_stands_73 (by decide) ?_
    refine v_istore dX11_stands_74 (by decide) rfl ?_
    refine v_ls (ls2 := [some (.ref 66), some (.int a1), some (.int a2), some (.int a3), some (.int a4), some (.int a5), some (.int v1), some (.int v3), some (.int v4), some (.int v6), some (.int (0 : Int32)), none]) rfl ?_
    obtain ⟨m22, h⟩ := h
    refine l_X11_stands_76  a1 a2 a3 a4 a5 v1 v3 v4 v6 (fun v23 τ24 h => ?_) m22 (0 : Int32) _ h
    refine v_iconst (v := 1) dX11_stands_144 (by decide) ?_
    refine v_istore dX11_stands_145 (by decide) rfl ?_
    refine v_ls (ls2 := [some (.ref 66), some (.int a1), some (.int a2), some (.int a3), some (.int a4), some (.int a5), some (.int v1), some (.int v3), some (.int v4), some (.int v6), some (.int (1 : Int32)), none]) rfl ?_
    refine v_iconst (v := 0) dX11_stands_147 (by decide) ?_
    refine v_istore dX11_stands_148 (by decide) rfl ?_
    refine v_ls (ls2 := [some (.ref 66), some (.int a1), some (.int a2), some (.int a3), some (.int a4), some (.int a5), some (.int v1), some (.int v3), some (.int v4), some (.int v6), some (.int (1 : Int32)), some (.int (0 : Int32))]) rfl ?_
    obtain ⟨m35, h⟩ := h
    refine l_X11_stands_150  a1 a2 a3 a4 a5 v1 v3 v4 v6 (fun v36 v37 τ38 h => ?_) m35 (1 : Int32) (0 : Int32) _ h
    refine v_iload dX11_stands_202 rfl ?_
    refine v_if_eq (tgt := 237) dX11_stands_204 (by decide) (fun c39 => ?_) (fun c39 => ?_)
    · have h := h.1 c39
      refine v_iconst (v := 0) dX11_stands_237 (by decide) ?_
      exact u_zret dX11_stands_238 rfl ⟨rfl, id⟩ h
    · have h := h.2 c39
      refine v_iload dX11_stands_207 rfl ?_
      refine v_iload dX11_stands_209 rfl ?_
      refine v_iconst (v := 1) dX11_stands_211 (by decide) ?_
      refine v_isub dX11_stands_212 ?_
      refine v_icmp_lt (tgt := 233) dX11_stands_213 (by decide) (fun c40 => ?_) (fun c40 => ?_)
      · have h := h.1 c40
        refine v_iconst (v := 1) dX11_stands_233 (by decide) ?_
        refine v_goto (tgt := 238) dX11_stands_234 (by decide) ?_
        exact u_zret dX11_stands_238 rfl ⟨rfl, id⟩ h
      · have h := h.2 c40
        refine v_iload_n dX11_stands_216 rfl rfl ?_
        refine v_iconst (v := -1) dX11_stands_217 (by decide) ?_
        refine v_icmp_eq (tgt := 233) dX11_stands_218 (by decide) (fun c41 => ?_) (fun c41 => ?_)
        · have h := h.1 c41
          refine v_iconst (v := 1) dX11_stands_233 (by decide) ?_
          refine v_goto (tgt := 238) dX11_stands_234 (by decide) ?_
          exact u_zret dX11_stands_238 rfl ⟨rfl, id⟩ h
        · have h := h.2 c41
          refine v_aload_n dX11_stands_221 rfl rfl ?_
          refine v_iload dX11_stands_222 rfl ?_
          refine v_iload_n dX11_stands_224 rfl rfl ?_
          refine v_iload dX11_stands_225 rfl ?_
          refine u_callV [.int v3, .int a2, .int a4] mX11_areAlike iX11_areAlike lX11_192 dX11_stands_227 sh_66 rfl rfl (by decide) ⟨rfl, rfl, id⟩ rfl rfl (Nat.le_of_ble_eq_true rfl) (Nat.le_of_ble_eq_true rfl) (v_X11_areAlike v3 a2 a4 _ _ h) ?_
          rintro _ τ43 ⟨r42, rfl, h⟩
          refine v_if_ne (tgt := 237) dX11_stands_230 (by decide) (fun c44 => ?_) (fun c44 => ?_)
          · have h := h.1 c44
            refine v_iconst (v := 0) dX11_stands_237 (by decide) ?_
            exact u_zret dX11_stands_238 rfl ⟨rfl, id⟩ h
          · have h := h.2 c44
            refine v_iconst (v := 1) dX11_stands_233 (by decide) ?_
            refine v_goto (tgt := 238) dX11_stands_234 (by decide) ?_
            exact u_zret dX11_stands_238 rfl ⟨rfl, id⟩ h
  · have h := h.2 c7
    refine v_iload dX11_stands_40 rfl ?_
    refine v_aload_n dX11_stands_42 rfl rfl ?_
    refine u_getr fX11_26 dX11_stands_43 sh_66 rfl (by decide) (rf_66_11 _) ?_
    refine v_iconst (v := 5) dX11_stands_46 (by decide) ?_
    refine v_iload dX11_stands_47 rfl ?_
    refine v_imul dX11_stands_49 ?_
    refine v_iload dX11_stands_50 rfl ?_
    refine v_iadd dX11_stands_52 ?_
    refine v_iconst (v := 1) dX11_stands_53 (by decide) ?_
    refine v_isub dX11_stands_54 ?_
    obtain ⟨j45, e_j45, l_j45, h⟩ := h
    refine u_iald dX11_stands_55 sh_70 (by decide) (by decide) e_j45 l_j45 ?_
    refine v_isub dX11_stands_56 ?_
    refine v_i2l dX11_stands_57 ?_
    refine v_iload dX11_stands_58 rfl ?_
    refine v_ineg dX11_stands_60 ?_
    refine v_i2l dX11_stands_61 ?_
    refine v_iload dX11_stands_62 rfl ?_
    refine v_i2l dX11_stands_64 ?_
    refine u_callS [.long (((v6 - (q_i τ 70 j45))).toInt64), .long (((-a5)).toInt64), .long ((a5).toInt64)] mX11_in sX11_in lX11_67 dX11_stands_65 ⟨rfl, rfl, id⟩ rfl rfl (Nat.le_of_ble_eq_true rfl) (Nat.le_of_ble_eq_true rfl) (v_X11_in (((v6 - (q_i τ 70 j45))).toInt64) (((-a5)).toInt64) ((a5).toInt64) _ _ h) ?_
    rintro _ τ47 ⟨r46, rfl, h⟩
    refine v_if_ne (tgt := 73) dX11_stands_68 (by decide) (fun c48 => ?_) (fun c48 => ?_)
    · have h := h.1 c48
      refine v_iconst (v := 0) dX11_stands_73 (by decide) ?_
      refine v_istore dX11_stands_74 (by decide) rfl ?_
      refine v_ls (ls2 := [some (.ref 66), some (.int a1), some (.int a2), some (.int a3), some (.int a4), some (.int a5), some (.int v1), some (.int v3), some (.int v4), some (.int v6), some (.int (0 : Int32)), none]) rfl ?_
      obtain ⟨m49, h⟩ := h
      refine l_X11_stands_76  a1 a2 a3 a4 a5 v1 v3 v4 v6 (fun v50 τ51 h => ?_) m49 (0 : Int32) _ h
      refine v_iconst (v := 1) dX11_stands_144 (by decide) ?_
      refine v_istore dX11_stands_145 (by decide) rfl ?_
      refine v_ls (ls2 := [some (.ref 66), some (.int a1), some (.int a2), some (.int a3), some (.int a4), some (.int a5), some (.int v1), some (.int v3), some (.int v4), some (.int v6), some (.int (1 : Int32)), none]) rfl ?_
      refine v_iconst (v := 0) dX11_stands_147 (by decide) ?_
      refine v_istore dX11_stands_148 (by decide) rfl ?_
      refine v_ls (ls2 := [some (.ref 66), some (.int a1), some (.int a2), some (.int a3), some (.int a4), some (.int a5), some (.int v1), some (.int v3), some (.int v4), some (.int v6), some (.int (1 : Int32)), some (.int (0 : Int32))]) rfl ?_
      obtain ⟨m52, h⟩ := h
      refine l_X11_stands_150  a1 a2 a3 a4 a5 v1 v3 v4 v6 (fun v53 v54 τ55 h => ?_) m52 (1 : Int32) (0 : Int32) _ h
      refine v_iload dX11_stands_202 rfl ?_
      refine v_if_eq (tgt := 237) dX11_stands_204 (by decide) (fun c56 => ?_) (fun c56 => ?_)
      · have h := h.1 c56
        refine v_iconst (v := 0) dX11_stands_237 (by decide) ?_
        exact u_zret dX11_stands_238 rfl ⟨rfl, id⟩ h
      · have h := h.2 c56
        refine v_iload dX11_stands_207 rfl ?_
        refine v_iload dX11_stands_209 rfl ?_
        refine v_iconst (v := 1) dX11_stands_211 (by decide) ?_
        refine v_isub dX11_stands_212 ?_
        refine v_icmp_lt (tgt := 233) dX11_stands_213 (by decide) (fun c57 => ?_) (fun c57 => ?_)
        · have h := h.1 c57
          refine v_iconst (v := 1) dX11_stands_233 (by decide) ?_
          refine v_goto (tgt := 238) dX11_stands_234 (by decide) ?_
          exact u_zret dX11_stands_238 rfl ⟨rfl, id⟩ h
        · have h := h.2 c57
          refine v_iload_n dX11_stands_216 rfl rfl ?_
          refine v_iconst (v := -1) dX11_stands_217 (by decide) ?_
          refine v_icmp_eq (tgt := 233) dX11_stands_218 (by decide) (fun c58 => ?_) (fun c58 => ?_)
          · have h := h.1 c58
            refine v_iconst (v := 1) dX11_stands_233 (by decide) ?_
            refine v_goto (tgt := 238) dX11_stands_234 (by decide) ?_
            exact u_zret dX11_stands_238 rfl ⟨rfl, id⟩ h
          · have h := h.2 c58
            refine v_aload_n dX11_stands_221 rfl rfl ?_
            refine v_iload dX11_stands_222 rfl ?_
            refine v_iload_n dX11_stands_224 rfl rfl ?_
            refine v_iload dX11_stands_225 rfl ?_
            refine u_callV [.int v3, .int a2, .int a4] mX11_areAlike iX11_areAlike lX11_192 dX11_stands_227 sh_66 rfl rfl (by decide) ⟨rfl, rfl, id⟩ rfl rfl (Nat.le_of_ble_eq_true rfl) (Nat.le_of_ble_eq_true rfl) (v_X11_areAlike v3 a2 a4 _ _ h) ?_
            rintro _ τ60 ⟨r59, rfl, h⟩
            refine v_if_ne (tgt := 237) dX11_stands_230 (by decide) (fun c61 => ?_) (fun c61 => ?_)
            · have h := h.1 c61
              refine v_iconst (v := 0) dX11_stands_237 (by decide) ?_
              exact u_zret dX11_stands_238 rfl ⟨rfl, id⟩ h
            · have h := h.2 c61
              refine v_iconst (v := 1) dX11_stands_233 (by decide) ?_
              refine v_goto (tgt := 238) dX11_stands_234 (by decide) ?_
              exact u_zret dX11_stands_238 rfl ⟨rfl, id⟩ h
    · have h := h.2 c48
      refine v_iconst (v := 0) dX11_stands_71 (by decide) ?_
      exact u_zret dX11_stands_72 rfl ⟨rfl, id⟩ h
def L_X11_bars_31  (f1 : Int32) (f2 : Int32) (f3 : Int32) (K : Int32 → Int32 → kT → Prop) (post : Int32 → kT → Prop) : Nat → Int32 → Int32 → kT → Prop
  | 0, _, _, _ => False
  | n + 1, x4, x5, τ => ((f3 ≤ x5 → K x4 x5 τ) ∧ (¬ f3 ≤ x5 → (∃ j5 : Nat, (((5 : Int32) * f2) + x5) = nI j5 ∧ j5 < 30 ∧ (∀ v6 : Int32, v6 = (q_i τ 74 j5) → ((¬ x4 = 0 → (∀ v8 : Int32, v8 = x5 + (1 : Int32) → L_X11_bars_31 f1 f2 f3 K post n (1 : Int32) v8 τ)) ∧ (x4 = 0 → ((v6 = 0 → (∀ v10 : Int32, v10 = x5 + (1 : Int32) → L_X11_bars_31 f1 f2 f3 K post n (0 : Int32) v10 τ)) ∧ (¬ v6 = 0 → (∃ j11 : Nat, (((5 : Int32) * f1) + x5) = nI j11 ∧ j11 < 30 ∧ ((¬ ((v6 >>> ((q_i τ 70 j11) &&& 31)) &&& (1 : Int32)) = 0 → (∀ v13 : Int32, v13 = x5 + (1 : Int32) → L_X11_bars_31 f1 f2 f3 K post n (0 : Int32) v13 τ)) ∧ (((v6 >>> ((q_i τ 70 j11) &&& 31)) &&& (1 : Int32)) = 0 → (∀ v14 : Int32, v14 = x5 + (1 : Int32) → L_X11_bars_31 f1 f2 f3 K post n (1 : Int32) v14 τ))))))))))))
def T_X11_bars (a1 : Int32) (a2 : Int32) (a3 : Int32) (τ : kT) (post : Int32 → kT → Prop) : Prop := (∃ j1 : Nat, ((4464 : Int32) + a2) = nI j1 ∧ j1 < 8530 ∧ (∃ j2 : Nat, ((0 : Int32) + (q_i τ 67 j1)) = nI j2 ∧ j2 < 8530 ∧ ((¬ (q_i τ 67 j2) = (3 : Int32) → (∃ m15 : Nat, L_X11_bars_31  a1 a2 a3 (fun v16 v17 τ18 => ((v16 = 0 ∨ v16 = 1) ∧ post v16 τ18)) post m15 (0 : Int32) (0 : Int32) τ)) ∧ ((q_i τ 67 j2) = (3 : Int32) → (∃ m19 : Nat, L_X11_bars_31  a1 a2 a3 (fun v20 v21 τ22 => ((v20 = 0 ∨ v20 = 1) ∧ post v20 τ22)) post m19 (1 : Int32) (0 : Int32) τ)))))
set_option maxRecDepth 100000 in
set_option maxHeartbeats 4000000 in
theorem l_X11_bars_31 {d : Nat}  (f1 : Int32) (f2 : Int32) (f3 : Int32) {K : Int32 → Int32 → kT → Prop} {post : Int32 → kT → Prop} (hK : ∀ (x4 : Int32) (x5 : Int32) (τ : kT), K x4 x5 τ → U yX11_bars cX11_bars 7 (some .boolean) (d + 0) kE0 92 [some (.ref 66), some (.int f1), some (.int f2), some (.int f3), some (.int x4), some (.int x5), none] [] τ (k_pi post)) : ∀ (n : Nat) (x4 : Int32) (x5 : Int32) (τ : kT), L_X11_bars_31  f1 f2 f3 K post n x4 x5 τ → U yX11_bars cX11_bars 7 (some .boolean) (d + 0) kE0 31 [some (.ref 66), some (.int f1), some (.int f2), some (.int f3), some (.int x4), some (.int x5), none] [] τ (k_pi post) := by
  intro n
  induction n with
  | zero => intro x4 x5 τ h; exact h.elim
  | succ n ih =>
    intro x4 x5 τ h
    unfold L_X11_bars_31 at h
    refine v_iload dX11_bars_31 rfl ?_
    refine v_iload_n dX11_bars_33 rfl rfl ?_
    refine v_icmp_ge (tgt := 92) dX11_bars_34 (by decide) (fun c4 => ?_) (fun c4 => ?_)
    · have h := h.1 c4
      exact hK x4 x5 _ h
    · have h := h.2 c4
      refine v_aload_n dX11_bars_37 rfl rfl ?_
      refine u_getr fX11_38 dX11_bars_38 sh_66 rfl (by decide) (rf_66_16 _) ?_
      refine v_iconst (v := 5) dX11_bars_41 (by decide) ?_
      refine v_iload_n dX11_bars_42 rfl rfl ?_
      refine v_imul dX11_bars_43 ?_
      refine v_iload dX11_bars_44 rfl ?_
      refine v_iadd dX11_bars_46 ?_
      obtain ⟨j5, e_j5, l_j5, h⟩ := h
      refine u_iald dX11_bars_47 sh_74 (by decide) (by decide) e_j5 l_j5 ?_
      refine v_topi (fun v6 e_v6 => ?_)
      have h := h v6 e_v6
      refine v_istore dX11_bars_48 (by decide) rfl ?_
      refine v_ls (ls2 := [some (.ref 66), some (.int f1), some (.int f2), some (.int f3), some (.int x4), some (.int x5), some (.int v6)]) rfl ?_
      refine v_iload dX11_bars_50 rfl ?_
      refine v_if_ne (tgt := 79) dX11_bars_52 (by decide) (fun c7 => ?_) (fun c7 => ?_)
      · have h := h.1 c7
        refine v_iconst (v := 1) dX11_bars_79 (by decide) ?_
        refine v_goto (tgt := 84) dX11_bars_80 (by decide) ?_
        refine v_istore dX11_bars_84 (by decide) rfl ?_
        refine v_ls (ls2 := [some (.ref 66), some (.int f1), some (.int f2), some (.int f3), some (.int (1 : Int32)), some (.int x5), some (.int v6)]) rfl ?_
        obtain ⟨v8, e_v8⟩ : ∃ z : Int32, z = x5 + (1 : Int32) := ⟨_, rfl⟩
        have h := h v8 e_v8
        refine v_iinc (v := v8) dX11_bars_86 rfl (by rw [e_v8]; rfl) (by decide) rfl ?_
        refine v_ls (ls2 := [some (.ref 66), some (.int f1), some (.int f2), some (.int f3), some (.int (1 : Int32)), some (.int v8), some (.int v6)]) rfl ?_
        refine v_goto (tgt := 31) dX11_bars_89 (by decide) ?_
        refine v_none 6 ?_
        refine v_ls (ls2 := [some (.ref 66), some (.int f1), some (.int f2), some (.int f3), some (.int (1 : Int32)), some (.int v8), none]) rfl ?_
        exact ih (1 : Int32) v8 _ h
      · have h := h.2 c7
        refine v_iload dX11_bars_55 rfl ?_
        refine v_if_eq (tgt := 83) dX11_bars_57 (by decide) (fun c9 => ?_) (fun c9 => ?_)
        · have h := h.1 c9
          refine v_iconst (v := 0) dX11_bars_83 (by decide) ?_
          refine v_istore dX11_bars_84 (by decide) rfl ?_
          refine v_ls (ls2 := [some (.ref 66), some (.int f1), some (.int f2), some (.int f3), some (.int (0 : Int32)), some (.int x5), some (.int v6)]) rfl ?_
          obtain ⟨v10, e_v10⟩ : ∃ z : Int32, z = x5 + (1 : Int32) := ⟨_, rfl⟩
          have h := h v10 e_v10
          refine v_iinc (v := v10) dX11_bars_86 rfl (by rw [e_v10]; rfl) (by decide) rfl ?_
          refine v_ls (ls2 := [some (.ref 66), some (.int f1), some (.int f2), some (.int f3), some (.int (0 : Int32)), some (.int v10), some (.int v6)]) rfl ?_
          refine v_goto (tgt := 31) dX11_bars_89 (by decide) ?_
          refine v_none 6 ?_
          refine v_ls (ls2 := [some (.ref 66), some (.int f1), some (.int f2), some (.int f3), some (.int (0 : Int32)), some (.int v10), none]) rfl ?_
          exact ih (0 : Int32) v10 _ h
        · have h := h.2 c9
          refine v_iload dX11_bars_60 rfl ?_
          refine v_aload_n dX11_bars_62 rfl rfl ?_
          refine u_getr fX11_26 dX11_bars_63 sh_66 rfl (by decide) (rf_66_11 _) ?_
          refine v_iconst (v := 5) dX11_bars_66 (by decide) ?_
          refine v_iload_n dX11_bars_67 rfl rfl ?_
          refine v_imul dX11_bars_68 ?_
          refine v_iload dX11_bars_69 rfl ?_
          refine v_iadd dX11_bars_71 ?_
          obtain ⟨j11, e_j11, l_j11, h⟩ := h
          refine u_iald dX11_bars_72 sh_70 (by decide) (by decide) e_j11 l_j11 ?_
          refine v_ishr dX11_bars_73 ?_
          refine v_iconst (v := 1) dX11_bars_74 (by decide) ?_
          refine v_iand dX11_bars_75 ?_
          refine v_if_ne (tgt := 83) dX11_bars_76 (by decide) (fun c12 => ?_) (fun c12 => ?_)
          · have h := h.1 c12
            refine v_iconst (v := 0) dX11_bars_83 (by decide) ?_
            refine v_istore dX11_bars_84 (by decide) rfl ?_
            refine v_ls (ls2 := [some (.ref 66), some (.int f1), some (.int f2), some (.int f3), some (.int (0 : Int32)), some (.int x5), some (.int v6)]) rfl ?_
            obtain ⟨v13, e_v13⟩ : ∃ z : Int32, z = x5 + (1 : Int32) := ⟨_, rfl⟩
            have h := h v13 e_v13
            refine v_iinc (v := v13) dX11_bars_86 rfl (by rw [e_v13]; rfl) (by decide) rfl ?_
            refine v_ls (ls2 := [some (.ref 66), some (.int f1), some (.int f2), some (.int f3), some (.int (0 : Int32)), some (.int v13), some (.int v6)]) rfl ?_
            refine v_goto (tgt := 31) dX11_bars_89 (by decide) ?_
            refine v_none 6 ?_
            refine v_ls (ls2 := [some (.ref 66), some (.int f1), some (.int f2), some (.int f3), some (.int (0 : Int32)), some (.int v13), none]) rfl ?_
            exact ih (0 : Int32) v13 _ h
          · have h := h.2 c12
            refine v_iconst (v := 1) dX11_bars_79 (by decide) ?_
            refine v_goto (tgt := 84) dX11_bars_80 (by decide) ?_
            refine v_istore dX11_bars_84 (by decide) rfl ?_
            refine v_ls (ls2 := [some (.ref 66), some (.int f1), some (.int f2), some (.int f3), some (.int (1 : Int32)), some (.int x5), some (.int v6)]) rfl ?_
            obtain ⟨v14, e_v14⟩ : ∃ z : Int32, z = x5 + (1 : Int32) := ⟨_, rfl⟩
            have h := h v14 e_v14
            refine v_iinc (v := v14) dX11_bars_86 rfl (by rw [e_v14]; rfl) (by decide) rfl ?_
            refine v_ls (ls2 := [some (.ref 66), some (.int f1), some (.int f2), some (.int f3), some (.int (1 : Int32)), some (.int v14), some (.int v6)]) rfl ?_
            refine v_goto (tgt := 31) dX11_bars_89 (by decide) ?_
            refine v_none 6 ?_
            refine v_ls (ls2 := [some (.ref 66), some (.int f1), some (.int f2), some (.int f3), some (.int (1 : Int32)), some (.int v14), none]) rfl ?_
            exact ih (1 : Int32) v14 _ h
set_option maxRecDepth 100000 in
set_option maxHeartbeats 4000000 in
theorem v_X11_bars {d : Nat}  (a1 : Int32) (a2 : Int32) (a3 : Int32) (τ : kT) (post : Int32 → kT → Prop) (h : T_X11_bars  a1 a2 a3 τ post) : U yX11_bars cX11_bars 7 (some .boolean) (d + 0) kE0 0 [some (.ref 66), some (.int a1), some (.int a2), some (.int a3), none, none, none] [] τ (k_pi post) := by
  unfold T_X11_bars at h
  refine v_aload_n dX11_bars_0 rfl rfl ?_
  refine u_getr fX11_7 dX11_bars_1 sh_66 rfl (by decide) (rf_66_0 _) ?_
  refine v_iconst (v := 0) dX11_bars_4 (by decide) ?_
  refine v_aload_n dX11_bars_5 rfl rfl ?_
  refine u_getr fX11_7 dX11_bars_6 sh_66 rfl (by decide) (rf_66_0 _) ?_
  refine v_sipush (v := 4464) dX11_bars_9 (by decide) ?_
  refine v_iload_n dX11_bars_12 rfl rfl ?_
  refine v_iadd dX11_bars_13 ?_
  obtain ⟨j1, e_j1, l_j1, h⟩ := h
  refine u_iald dX11_bars_14 sh_67 (by decide) (by decide) e_j1 l_j1 ?_
  refine v_iadd dX11_bars_15 ?_
  obtain ⟨j2, e_j2, l_j2, h⟩ := h
  refine u_iald dX11_bars_16 sh_67 (by decide) (by decide) e_j2 l_j2 ?_
  refine v_iconst (v := 3) dX11_bars_17 (by decide) ?_
  refine v_icmp_ne (tgt := 25) dX11_bars_18 (by decide) (fun c3 => ?_) (fun c3 => ?_)
  · have h := h.1 c3
    refine v_iconst (v := 0) dX11_bars_25 (by decide) ?_
    refine v_istore dX11_bars_26 (by decide) rfl ?_
    refine v_ls (ls2 := [some (.ref 66), some (.int a1), some (.int a2), some (.int a3), some (.int (0 : Int32)), none, none]) rfl ?_
    refine v_iconst (v := 0) dX11_bars_28 (by decide) ?_
    refine v_istore dX11_bars_29 (by decide) rfl ?_
    refine v_ls (ls2 := [some (.ref 66), some (.int a1), some (.int a2), some (.int a3), some (.int (0 : Int32)), some (.int (0 : Int32)), none]) rfl ?_
    obtain ⟨m15, h⟩ := h
    refine l_X11_bars_31  a1 a2 a3 (fun v16 v17 τ18 h => ?_) m15 (0 : Int32) (0 : Int32) _ h
    refine v_iload dX11_bars_92 rfl ?_
    exact u_zret dX11_bars_94 (k_nz h.1) ⟨rfl, id⟩ h.2
  · have h := h.2 c3
    refine v_iconst (v := 1) dX11_bars_21 (by decide) ?_
    refine v_goto (tgt := 26) dX11_bars_22 (by decide) ?_
    refine v_istore dX11_bars_26 (by decide) rfl ?_
    refine v_ls (ls2 := [some (.ref 66), some (.int a1), some (.int a2), some (.int a3), some (.int (1 : Int32)), none, none]) rfl ?_
    refine v_iconst (v := 0) dX11_bars_28 (by decide) ?_
    refine v_istore dX11_bars_29 (by decide) rfl ?_
    refine v_ls (ls2 := [some (.ref 66), some (.int a1), some (.int a2), some (.int a3), some (.int (1 : Int32)), some (.int (0 : Int32)), none]) rfl ?_
    obtain ⟨m19, h⟩ := h
    refine l_X11_bars_31  a1 a2 a3 (fun v20 v21 τ22 h => ?_) m19 (1 : Int32) (0 : Int32) _ h
    refine v_iload dX11_bars_92 rfl ?_
    exact u_zret dX11_bars_94 (k_nz h.1) ⟨rfl, id⟩ h.2
def L_X11_areNeversMet_12  (f1 : Int32) (f2 : Int32) (f3 : Int32) (f4 : Int32) (K : Int32 → kT → Prop) (post : Int32 → kT → Prop) : Nat → Int32 → kT → Prop
  | 0, _, _ => False
  | n + 1, x5, τ => ((f3 ≤ x5 → K x5 τ) ∧ (¬ f3 ≤ x5 → (T_X11_cutsAt f4 x5 ((q_i τ 66 14) - (1 : Int32)) τ (fun r3 τ4 => ((r3 ≤ 0 → (∃ j6 : Nat, ((4464 : Int32) + f4) = nI j6 ∧ j6 < 8530 ∧ (∃ j7 : Nat, (((400 : Int32) + ((18 : Int32) * (q_i τ4 67 j6))) + x5) = nI j7 ∧ j7 < 8530 ∧ (∃ j8 : Nat, (((5 : Int32) * f4) + x5) = nI j8 ∧ j8 < 30 ∧ (∀ τ9 : kT, τ9 = q_si τ4 74 j8 (q_i τ4 67 j7) → (∀ v10 : Int32, v10 = x5 + (1 : Int32) → L_X11_areNeversMet_12 f1 f2 f3 f4 K post n v10 τ9)))))) ∧ (¬ r3 ≤ 0 → (∃ j11 : Nat, (((5 : Int32) * f4) + x5) = nI j11 ∧ j11 < 30 ∧ (∀ τ12 : kT, τ12 = q_si τ4 74 j11 r3 → (∀ v13 : Int32, v13 = x5 + (1 : Int32) → L_X11_areNeversMet_12 f1 f2 f3 f4 K post n v13 τ12)))))))))
def L_X11_areNeversMet_3  (f1 : Int32) (f2 : Int32) (f3 : Int32) (K : Int32 → kT → Prop) (post : Int32 → kT → Prop) : Nat → Int32 → kT → Prop
  | 0, _, _ => False
  | n + 1, x4, τ => ((f2 ≤ x4 → K x4 τ) ∧ (¬ f2 ≤ x4 → (∃ m14 : Nat, L_X11_areNeversMet_12  f1 f2 f3 x4 (fun v15 τ16 => (∀ v17 : Int32, v17 = x4 + (1 : Int32) → L_X11_areNeversMet_3 f1 f2 f3 K post n v17 τ16)) post m14 (0 : Int32) τ)))
def L_X11_areNeversMet_109  (f1 : Int32) (f2 : Int32) (f3 : Int32) (f5 : Int32) (K : Int32 → Int32 → kT → Prop) (post : Int32 → kT → Prop) : Nat → Int32 → Int32 → kT → Prop
  | 0, _, _, _ => False
  | n + 1, x4, x6, τ => ((f2 ≤ x6 → K x4 x6 τ) ∧ (¬ f2 ≤ x6 → ((x4 = 0 → (∀ v24 : Int32, v24 = x6 + (1 : Int32) → L_X11_areNeversMet_109 f1 f2 f3 f5 K post n (0 : Int32) v24 τ)) ∧ (¬ x4 = 0 → (∃ j25 : Nat, (((6 : Int32) * f5) + x6) = nI j25 ∧ j25 < 36 ∧ ((¬ (q_i τ 73 j25) = (2 : Int32) → (∀ v27 : Int32, v27 = x6 + (1 : Int32) → L_X11_areNeversMet_109 f1 f2 f3 f5 K post n (1 : Int32) v27 τ)) ∧ ((q_i τ 73 j25) = (2 : Int32) → (T_X11_bars f5 x6 f3 τ (fun r28 τ29 => ((r28 = 0 → (∀ v31 : Int32, v31 = x6 + (1 : Int32) → L_X11_areNeversMet_109 f1 f2 f3 f5 K post n (0 : Int32) v31 τ29)) ∧ (¬ r28 = 0 → (∀ v32 : Int32, v32 = x6 + (1 : Int32) → L_X11_areNeversMet_109 f1 f2 f3 f5 K post n (1 : Int32) v32 τ29))))))))))))
def L_X11_areNeversMet_100  (f1 : Int32) (f2 : Int32) (f3 : Int32) (K : Int32 → Int32 → kT → Prop) (post : Int32 → kT → Prop) : Nat → Int32 → Int32 → kT → Prop
  | 0, _, _, _ => False
  | n + 1, x4, x5, τ => ((f1 ≤ x5 → K x4 x5 τ) ∧ (¬ f1 ≤ x5 → (∃ m33 : Nat, L_X11_areNeversMet_109  f1 f2 f3 x5 (fun v34 v35 τ36 => (∀ v37 : Int32, v37 = x5 + (1 : Int32) → L_X11_areNeversMet_100 f1 f2 f3 K post n v34 v37 τ36)) post m33 x4 (0 : Int32) τ)))
def T_X11_areNeversMet (a1 : Int32) (a2 : Int32) (a3 : Int32) (τ : kT) (post : Int32 → kT → Prop) : Prop := (∃ m18 : Nat, L_X11_areNeversMet_3  a1 a2 a3 (fun v19 τ20 => (∃ m38 : Nat, L_X11_areNeversMet_100  a1 a2 a3 (fun v39 v40 τ41 => ((v39 = 0 ∨ v39 = 1) ∧ post v39 τ41)) post m38 (1 : Int32) (0 : Int32) τ20)) post m18 (0 : Int32) τ)
set_option maxRecDepth 100000 in
set_option maxHeartbeats 4000000 in
theorem l_X11_areNeversMet_12 {d : Nat}  (f1 : Int32) (f2 : Int32) (f3 : Int32) (f4 : Int32) {K : Int32 → kT → Prop} {post : Int32 → kT → Prop} (hK : ∀ (x5 : Int32) (τ : kT), K x5 τ → U yX11_areNeversMet cX11_areNeversMet 7 (some .boolean) (d + 1) kE0 88 [some (.ref 66), some (.int f1), some (.int f2), some (.int f3), some (.int f4), some (.int x5), none] [] τ (k_pi post)) : ∀ (n : Nat) (x5 : Int32) (τ : kT), L_X11_areNeversMet_12  f1 f2 f3 f4 K post n x5 τ → U yX11_areNeversMet cX11_areNeversMet 7 (some .boolean) (d + 1) kE0 12 [some (.ref 66), some (.int f1), some (.int f2), some (.int f3), some (.int f4), some (.int x5), none] [] τ (k_pi post) := by
  intro n
  induction n with
  | zero => intro x5 τ h; exact h.elim
  | succ n ih =>
    intro x5 τ h
    unfold L_X11_areNeversMet_12 at h
    refine v_iload dX11_areNeversMet_12 rfl ?_
    refine v_iload_n dX11_areNeversMet_14 rfl rfl ?_
    refine v_icmp_ge (tgt := 88) dX11_areNeversMet_15 (by decide) (fun c2 => ?_) (fun c2 => ?_)
    · have h := h.1 c2
      exact hK x5 _ h
    · have h := h.2 c2
      refine v_aload_n dX11_areNeversMet_18 rfl rfl ?_
      refine v_iload dX11_areNeversMet_19 rfl ?_
      refine v_iload dX11_areNeversMet_21 rfl ?_
      refine v_aload_n dX11_areNeversMet_23 rfl rfl ?_
      refine u_geti fX11_164 dX11_areNeversMet_24 sh_66 rfl (by decide) ?_
      refine v_iconst (v := 1) dX11_areNeversMet_27 (by decide) ?_
      refine v_isub dX11_areNeversMet_28 ?_
      refine u_callV [.int f4, .int x5, .int ((q_i τ 66 14) - (1 : Int32))] mX11_cutsAt iX11_cutsAt lX11_188 dX11_areNeversMet_29 sh_66 rfl rfl (by decide) ⟨rfl, rfl, id⟩ rfl rfl (Nat.le_of_ble_eq_true rfl) (Nat.le_of_ble_eq_true rfl) (v_X11_cutsAt f4 x5 ((q_i τ 66 14) - (1 : Int32)) _ _ h) ?_
      rintro _ τ4 ⟨r3, rfl, h⟩
      refine v_istore dX11_areNeversMet_32 (by decide) rfl ?_
      refine v_ls (ls2 := [some (.ref 66), some (.int f1), some (.int f2), some (.int f3), some (.int f4), some (.int x5), some (.int r3)]) rfl ?_
      refine v_aload_n dX11_areNeversMet_34 rfl rfl ?_
      refine u_getr fX11_38 dX11_areNeversMet_35 sh_66 rfl (by decide) (rf_66_16 _) ?_
      refine v_iconst (v := 5) dX11_areNeversMet_38 (by decide) ?_
      refine v_iload dX11_areNeversMet_39 rfl ?_
      refine v_imul dX11_areNeversMet_41 ?_
      refine v_iload dX11_areNeversMet_42 rfl ?_
      refine v_iadd dX11_areNeversMet_44 ?_
      refine v_iload dX11_areNeversMet_45 rfl ?_
      refine v_if_le (tgt := 55) dX11_areNeversMet_47 (by decide) (fun c5 => ?_) (fun c5 => ?_)
      · have h := h.1 c5
        refine v_aload_n dX11_areNeversMet_55 rfl rfl ?_
        refine u_getr fX11_7 dX11_areNeversMet_56 sh_66 rfl (by decide) (rf_66_0 _) ?_
        refine v_sipush (v := 400) dX11_areNeversMet_59 (by decide) ?_
        refine v_bipush (v := 18) dX11_areNeversMet_62 (by decide) ?_
        refine v_aload_n dX11_areNeversMet_64 rfl rfl ?_
        refine u_getr fX11_7 dX11_areNeversMet_65 sh_66 rfl (by decide) (rf_66_0 _) ?_
        refine v_sipush (v := 4464) dX11_areNeversMet_68 (by decide) ?_
        refine v_iload dX11_areNeversMet_71 rfl ?_
        refine v_iadd dX11_areNeversMet_73 ?_
        obtain ⟨j6, e_j6, l_j6, h⟩ := h
        refine u_iald dX11_areNeversMet_74 sh_67 (by decide) (by decide) e_j6 l_j6 ?_
        refine v_imul dX11_areNeversMet_75 ?_
        refine v_iadd dX11_areNeversMet_76 ?_
        refine v_iload dX11_areNeversMet_77 rfl ?_
        refine v_iadd dX11_areNeversMet_79 ?_
        obtain ⟨j7, e_j7, l_j7, h⟩ := h
        refine u_iald dX11_areNeversMet_80 sh_67 (by decide) (by decide) e_j7 l_j7 ?_
        obtain ⟨j8, e_j8, l_j8, h⟩ := h
        refine u_iast dX11_areNeversMet_81 sh_74 (by decide) (by decide) e_j8 l_j8 (fun τ9 e_τ9 => ?_)
        have h := h τ9 e_τ9
        obtain ⟨v10, e_v10⟩ : ∃ z : Int32, z = x5 + (1 : Int32) := ⟨_, rfl⟩
        have h := h v10 e_v10
        refine v_iinc (v := v10) dX11_areNeversMet_82 rfl (by rw [e_v10]; rfl) (by decide) rfl ?_
        refine v_ls (ls2 := [some (.ref 66), some (.int f1), some (.int f2), some (.int f3), some (.int f4), some (.int v10), some (.int r3)]) rfl ?_
        refine v_goto (tgt := 12) dX11_areNeversMet_85 (by decide) ?_
        refine v_none 6 ?_
        refine v_ls (ls2 := [some (.ref 66), some (.int f1), some (.int f2), some (.int f3), some (.int f4), some (.int v10), none]) rfl ?_
        exact ih v10 _ h
      · have h := h.2 c5
        refine v_iload dX11_areNeversMet_50 rfl ?_
        refine v_goto (tgt := 81) dX11_areNeversMet_52 (by decide) ?_
        obtain ⟨j11, e_j11, l_j11, h⟩ := h
        refine u_iast dX11_areNeversMet_81 sh_74 (by decide) (by decide) e_j11 l_j11 (fun τ12 e_τ12 => ?_)
        have h := h τ12 e_τ12
        obtain ⟨v13, e_v13⟩ : ∃ z : Int32, z = x5 + (1 : Int32) := ⟨_, rfl⟩
        have h := h v13 e_v13
        refine v_iinc (v := v13) dX11_areNeversMet_82 rfl (by rw [e_v13]; rfl) (by decide) rfl ?_
        refine v_ls (ls2 := [some (.ref 66), some (.int f1), some (.int f2), some (.int f3), some (.int f4), some (.int v13), some (.int r3)]) rfl ?_
        refine v_goto (tgt := 12) dX11_areNeversMet_85 (by decide) ?_
        refine v_none 6 ?_
        refine v_ls (ls2 := [some (.ref 66), some (.int f1), some (.int f2), some (.int f3), some (.int f4), some (.int v13), none]) rfl ?_
        exact ih v13 _ h
set_option maxRecDepth 100000 in
set_option maxHeartbeats 4000000 in
theorem l_X11_areNeversMet_3 {d : Nat}  (f1 : Int32) (f2 : Int32) (f3 : Int32) {K : Int32 → kT → Prop} {post : Int32 → kT → Prop} (hK : ∀ (x4 : Int32) (τ : kT), K x4 τ → U yX11_areNeversMet cX11_areNeversMet 7 (some .boolean) (d + 1) kE0 94 [some (.ref 66), some (.int f1), some (.int f2), some (.int f3), some (.int x4), none, none] [] τ (k_pi post)) : ∀ (n : Nat) (x4 : Int32) (τ : kT), L_X11_areNeversMet_3  f1 f2 f3 K post n x4 τ → U yX11_areNeversMet cX11_areNeversMet 7 (some .boolean) (d + 1) kE0 3 [some (.ref 66), some (.int f1), some (.int f2), some (.int f3), some (.int x4), none, none] [] τ (k_pi post) := by
  intro n
  induction n with
  | zero => intro x4 τ h; exact h.elim
  | succ n ih =>
    intro x4 τ h
    unfold L_X11_areNeversMet_3 at h
    refine v_iload dX11_areNeversMet_3 rfl ?_
    refine v_iload_n dX11_areNeversMet_5 rfl rfl ?_
    refine v_icmp_ge (tgt := 94) dX11_areNeversMet_6 (by decide) (fun c1 => ?_) (fun c1 => ?_)
    · have h := h.1 c1
      exact hK x4 _ h
    · have h := h.2 c1
      refine v_iconst (v := 0) dX11_areNeversMet_9 (by decide) ?_
      refine v_istore dX11_areNeversMet_10 (by decide) rfl ?_
      refine v_ls (ls2 := [some (.ref 66), some (.int f1), some (.int f2), some (.int f3), some (.int x4), some (.int (0 : Int32)), none]) rfl ?_
      obtain ⟨m14, h⟩ := h
      refine l_X11_areNeversMet_12  f1 f2 f3 x4 (fun v15 τ16 h => ?_) m14 (0 : Int32) _ h
      obtain ⟨v17, e_v17⟩ : ∃ z : Int32, z = x4 + (1 : Int32) := ⟨_, rfl⟩
      have h := h v17 e_v17
      refine v_iinc (v := v17) dX11_areNeversMet_88 rfl (by rw [e_v17]; rfl) (by decide) rfl ?_
      refine v_ls (ls2 := [some (.ref 66), some (.int f1), some (.int f2), some (.int f3), some (.int v17), some (.int v15), none]) rfl ?_
      refine v_goto (tgt := 3) dX11_areNeversMet_91 (by decide) ?_
      refine v_none 5 ?_
      refine v_ls (ls2 := [some (.ref 66), some (.int f1), some (.int f2), some (.int f3), some (.int v17), none, none]) rfl ?_
      exact ih v17 _ h
set_option maxRecDepth 100000 in
set_option maxHeartbeats 4000000 in
theorem l_X11_areNeversMet_109 {d : Nat}  (f1 : Int32) (f2 : Int32) (f3 : Int32) (f5 : Int32) {K : Int32 → Int32 → kT → Prop} {post : Int32 → kT → Prop} (hK : ∀ (x4 : Int32) (x6 : Int32) (τ : kT), K x4 x6 τ → U yX11_areNeversMet cX11_areNeversMet 7 (some .boolean) (d + 1) kE0 162 [some (.ref 66), some (.int f1), some (.int f2), some (.int f3), some (.int x4), some (.int f5), some (.int x6)] [] τ (k_pi post)) : ∀ (n : Nat) (x4 : Int32) (x6 : Int32) (τ : kT), L_X11_areNeversMet_109  f1 f2 f3 f5 K post n x4 x6 τ → U yX11_areNeversMet cX11_areNeversMet 7 (some .boolean) (d + 1) kE0 109 [some (.ref 66), some (.int f1), some (.int f2), some (.int f3), some (.int x4), some (.int f5), some (.int x6)] [] τ (k_pi post) := by
  intro n
  induction n with
  | zero => intro x4 x6 τ h; exact h.elim
  | succ n ih =>
    intro x4 x6 τ h
    unfold L_X11_areNeversMet_109 at h
    refine v_iload dX11_areNeversMet_109 rfl ?_
    refine v_iload_n dX11_areNeversMet_111 rfl rfl ?_
    refine v_icmp_ge (tgt := 162) dX11_areNeversMet_112 (by decide) (fun c22 => ?_) (fun c22 => ?_)
    · have h := h.1 c22
      exact hK x4 x6 _ h
    · have h := h.2 c22
      refine v_iload dX11_areNeversMet_115 rfl ?_
      refine v_if_eq (tgt := 153) dX11_areNeversMet_117 (by decide) (fun c23 => ?_) (fun c23 => ?_)
      · have h := h.1 c23
        refine v_iconst (v := 0) dX11_areNeversMet_153 (by decide) ?_
        refine v_istore dX11_areNeversMet_154 (by decide) rfl ?_
        refine v_ls (ls2 := [some (.ref 66), some (.int f1), some (.int f2), some (.int f3), some (.int (0 : Int32)), some (.int f5), some (.int x6)]) rfl ?_
        obtain ⟨v24, e_v24⟩ : ∃ z : Int32, z = x6 + (1 : Int32) := ⟨_, rfl⟩
        have h := h v24 e_v24
        refine v_iinc (v := v24) dX11_areNeversMet_156 rfl (by rw [e_v24]; rfl) (by decide) rfl ?_
        refine v_ls (ls2 := [some (.ref 66), some (.int f1), some (.int f2), some (.int f3), some (.int (0 : Int32)), some (.int f5), some (.int v24)]) rfl ?_
        refine v_goto (tgt := 109) dX11_areNeversMet_159 (by decide) ?_
        exact ih (0 : Int32) v24 _ h
      · have h := h.2 c23
        refine v_aload_n dX11_areNeversMet_120 rfl rfl ?_
        refine u_getr fX11_35 dX11_areNeversMet_121 sh_66 rfl (by decide) (rf_66_15 _) ?_
        refine v_bipush (v := 6) dX11_areNeversMet_124 (by decide) ?_
        refine v_iload dX11_areNeversMet_126 rfl ?_
        refine v_imul dX11_areNeversMet_128 ?_
        refine v_iload dX11_areNeversMet_129 rfl ?_
        refine v_iadd dX11_areNeversMet_131 ?_
        obtain ⟨j25, e_j25, l_j25, h⟩ := h
        refine u_iald dX11_areNeversMet_132 sh_73 (by decide) (by decide) e_j25 l_j25 ?_
        refine v_iconst (v := 2) dX11_areNeversMet_133 (by decide) ?_
        refine v_icmp_ne (tgt := 149) dX11_areNeversMet_134 (by decide) (fun c26 => ?_) (fun c26 => ?_)
        · have h := h.1 c26
          refine v_iconst (v := 1) dX11_areNeversMet_149 (by decide) ?_
          refine v_goto (tgt := 154) dX11_areNeversMet_150 (by decide) ?_
          refine v_istore dX11_areNeversMet_154 (by decide) rfl ?_
          refine v_ls (ls2 := [some (.ref 66), some (.int f1), some (.int f2), some (.int f3), some (.int (1 : Int32)), some (.int f5), some (.int x6)]) rfl ?_
          obtain ⟨v27, e_v27⟩ : ∃ z : Int32, z = x6 + (1 : Int32) := ⟨_, rfl⟩
          have h := h v27 e_v27
          refine v_iinc (v := v27) dX11_areNeversMet_156 rfl (by rw [e_v27]; rfl) (by decide) rfl ?_
          refine v_ls (ls2 := [some (.ref 66), some (.int f1), some (.int f2), some (.int f3), some (.int (1 : Int32)), some (.int f5), some (.int v27)]) rfl ?_
          refine v_goto (tgt := 109) dX11_areNeversMet_159 (by decide) ?_
          exact ih (1 : Int32) v27 _ h
        · have h := h.2 c26
          refine v_aload_n dX11_areNeversMet_137 rfl rfl ?_
          refine v_iload dX11_areNeversMet_138 rfl ?_
          refine v_iload dX11_areNeversMet_140 rfl ?_
          refine v_iload_n dX11_areNeversMet_142 rfl rfl ?_
          refine u_callV [.int f5, .int x6, .int f3] mX11_bars iX11_bars lX11_195 dX11_areNeversMet_143 sh_66 rfl rfl (by decide) ⟨rfl, rfl, id⟩ rfl rfl (Nat.le_of_ble_eq_true rfl) (Nat.le_of_ble_eq_true rfl) (v_X11_bars f5 x6 f3 _ _ h) ?_
          rintro _ τ29 ⟨r28, rfl, h⟩
          refine v_if_eq (tgt := 153) dX11_areNeversMet_146 (by decide) (fun c30 => ?_) (fun c30 => ?_)
          · have h := h.1 c30
            refine v_iconst (v := 0) dX11_areNeversMet_153 (by decide) ?_
            refine v_istore dX11_areNeversMet_154 (by decide) rfl ?_
            refine v_ls (ls2 := [some (.ref 66), some (.int f1), some (.int f2), some (.int f3), some (.int (0 : Int32)), some (.int f5), some (.int x6)]) rfl ?_
            obtain ⟨v31, e_v31⟩ : ∃ z : Int32, z = x6 + (1 : Int32) := ⟨_, rfl⟩
            have h := h v31 e_v31
            refine v_iinc (v := v31) dX11_areNeversMet_156 rfl (by rw [e_v31]; rfl) (by decide) rfl ?_
            refine v_ls (ls2 := [some (.ref 66), some (.int f1), some (.int f2), some (.int f3), some (.int (0 : Int32)), some (.int f5), some (.int v31)]) rfl ?_
            refine v_goto (tgt := 109) dX11_areNeversMet_159 (by decide) ?_
            exact ih (0 : Int32) v31 _ h
          · have h := h.2 c30
            refine v_iconst (v := 1) dX11_areNeversMet_149 (by decide) ?_
            refine v_goto (tgt := 154) dX11_areNeversMet_150 (by decide) ?_
            refine v_istore dX11_areNeversMet_154 (by decide) rfl ?_
            refine v_ls (ls2 := [some (.ref 66), some (.int f1), some (.int f2), some (.int f3), some (.int (1 : Int32)), some (.int f5), some (.int x6)]) rfl ?_
            obtain ⟨v32, e_v32⟩ : ∃ z : Int32, z = x6 + (1 : Int32) := ⟨_, rfl⟩
            have h := h v32 e_v32
            refine v_iinc (v := v32) dX11_areNeversMet_156 rfl (by rw [e_v32]; rfl) (by decide) rfl ?_
            refine v_ls (ls2 := [some (.ref 66), some (.int f1), some (.int f2), some (.int f3), some (.int (1 : Int32)), some (.int f5), some (.int v32)]) rfl ?_
            refine v_goto (tgt := 109) dX11_areNeversMet_159 (by decide) ?_
            exact ih (1 : Int32) v32 _ h
set_option maxRecDepth 100000 in
set_option maxHeartbeats 4000000 in
theorem l_X11_areNeversMet_100 {d : Nat}  (f1 : Int32) (f2 : Int32) (f3 : Int32) {K : Int32 → Int32 → kT → Prop} {post : Int32 → kT → Prop} (hK : ∀ (x4 : Int32) (x5 : Int32) (τ : kT), K x4 x5 τ → U yX11_areNeversMet cX11_areNeversMet 7 (some .boolean) (d + 1) kE0 168 [some (.ref 66), some (.int f1), some (.int f2), some (.int f3), some (.int x4), some (.int x5), none] [] τ (k_pi post)) : ∀ (n : Nat) (x4 : Int32) (x5 : Int32) (τ : kT), L_X11_areNeversMet_100  f1 f2 f3 K post n x4 x5 τ → U yX11_areNeversMet cX11_areNeversMet 7 (some .boolean) (d + 1) kE0 100 [some (.ref 66), some (.int f1), some (.int f2), some (.int f3), some (.int x4), some (.int x5), none] [] τ (k_pi post) := by
  intro n
  induction n with
  | zero => intro x4 x5 τ h; exact h.elim
  | succ n ih =>
    intro x4 x5 τ h
    unfold L_X11_areNeversMet_100 at h
    refine v_iload dX11_areNeversMet_100 rfl ?_
    refine v_iload_n dX11_areNeversMet_102 rfl rfl ?_
    refine v_icmp_ge (tgt := 168) dX11_areNeversMet_103 (by decide) (fun c21 => ?_) (fun c21 => ?_)
    · have h := h.1 c21
      exact hK x4 x5 _ h
    · have h := h.2 c21
      refine v_iconst (v := 0) dX11_areNeversMet_106 (by decide) ?_
      refine v_istore dX11_areNeversMet_107 (by decide) rfl ?_
      refine v_ls (ls2 := [some (.ref 66), some (.int f1), some (.int f2), some (.int f3), some (.int x4), some (.int x5), some (.int (0 : Int32))]) rfl ?_
      obtain ⟨m33, h⟩ := h
      refine l_X11_areNeversMet_109  f1 f2 f3 x5 (fun v34 v35 τ36 h => ?_) m33 x4 (0 : Int32) _ h
      obtain ⟨v37, e_v37⟩ : ∃ z : Int32, z = x5 + (1 : Int32) := ⟨_, rfl⟩
      have h := h v37 e_v37
      refine v_iinc (v := v37) dX11_areNeversMet_162 rfl (by rw [e_v37]; rfl) (by decide) rfl ?_
      refine v_ls (ls2 := [some (.ref 66), some (.int f1), some (.int f2), some (.int f3), some (.int v34), some (.int v37), some (.int v35)]) rfl ?_
      refine v_goto (tgt := 100) dX11_areNeversMet_165 (by decide) ?_
      refine v_none 6 ?_
      refine v_ls (ls2 := [some (.ref 66), some (.int f1), some (.int f2), some (.int f3), some (.int v34), some (.int v37), none]) rfl ?_
      exact ih v34 v37 _ h
set_option maxRecDepth 100000 in
set_option maxHeartbeats 4000000 in
theorem v_X11_areNeversMet {d : Nat}  (a1 : Int32) (a2 : Int32) (a3 : Int32) (τ : kT) (post : Int32 → kT → Prop) (h : T_X11_areNeversMet  a1 a2 a3 τ post) : U yX11_areNeversMet cX11_areNeversMet 7 (some .boolean) (d + 1) kE0 0 [some (.ref 66), some (.int a1), some (.int a2), some (.int a3), none, none, none] [] τ (k_pi post) := by
  unfold T_X11_areNeversMet at h
  refine v_iconst (v := 0) dX11_areNeversMet_0 (by decide) ?_
  refine v_istore dX11_areNeversMet_1 (by decide) rfl ?_
  refine v_ls (ls2 := [some (.ref 66), some (.int a1), some (.int a2), some (.int a3), some (.int (0 : Int32)), none, none]) rfl ?_
  obtain ⟨m18, h⟩ := h
  refine l_X11_areNeversMet_3  a1 a2 a3 (fun v19 τ20 h => ?_) m18 (0 : Int32) _ h
  refine v_iconst (v := 1) dX11_areNeversMet_94 (by decide) ?_
  refine v_istore dX11_areNeversMet_95 (by decide) rfl ?_
  refine v_ls (ls2 := [some (.ref 66), some (.int a1), some (.int a2), some (.int a3), some (.int (1 : Int32)), none, none]) rfl ?_
  refine v_iconst (v := 0) dX11_areNeversMet_97 (by decide) ?_
  refine v_istore dX11_areNeversMet_98 (by decide) rfl ?_
  refine v_ls (ls2 := [some (.ref 66), some (.int a1), some (.int a2), some (.int a3), some (.int (1 : Int32)), some (.int (0 : Int32)), none]) rfl ?_
  obtain ⟨m38, h⟩ := h
  refine l_X11_areNeversMet_100  a1 a2 a3 (fun v39 v40 τ41 h => ?_) m38 (1 : Int32) (0 : Int32) _ h
  refine v_iload dX11_areNeversMet_168 rfl ?_
  exact u_zret dX11_areNeversMet_170 (k_nz h.1) ⟨rfl, id⟩ h.2
def L_X11_search_34  (f1 : Int32) (f2 : Int32) (f3 : Int32) (f4 : Int32) (f5 : Int32) (K : Int32 → kT → Prop) (post : Int32 → kT → Prop) : Nat → Int32 → kT → Prop
  | 0, _, _ => False
  | n + 1, x6, τ => ((x6 < 0 → K x6 τ) ∧ (¬ x6 < 0 → (∃ j4 : Nat, x6 = nI j4 ∧ j4 < 30 ∧ ((¬ (q_i τ 71 j4) = (10 : Int32) → ((¬ (q_i τ 66 10) = (4000 : Int32) → (∀ τ7 : kT, τ7 = q_si τ 66 10 ((q_i τ 66 10) + (1 : Int32)) → ((¬ f4 = 0) ∧ (∃ j8 : Nat, (x6 / f4) = nI j8 ∧ j8 < 6 ∧ ((¬ f4 = 0) ∧ (∃ j9 : Nat, x6 = nI j9 ∧ j9 < 30 ∧ (∃ j10 : Nat, (((5 : Int32) * (q_i τ7 72 j8)) + (x6 - x6 / f4 * f4)) = nI j10 ∧ j10 < 30 ∧ (∀ τ11 : kT, τ11 = q_si τ7 70 j10 (q_i τ7 71 j9) → (∃ j12 : Nat, x6 = nI j12 ∧ j12 < 30 ∧ (∃ j13 : Nat, x6 = nI j13 ∧ j13 < 30 ∧ (∀ τ14 : kT, τ14 = q_si τ11 71 j13 ((q_i τ11 71 j12) + (1 : Int32)) → (T_X11_stands x6 f1 f3 f4 f5 τ14 (fun r15 τ16 => ((r15 = 0 → L_X11_search_34 f1 f2 f3 f4 f5 K post n x6 τ16) ∧ (¬ r15 = 0 → (((x6 + (1 : Int32)) < ((q_i τ16 66 14) * f4) → (∀ v19 : Int32, v19 = x6 + (1 : Int32) → ((¬ v19 = ((q_i τ16 66 14) * f4) → (∃ j21 : Nat, v19 = nI j21 ∧ j21 < 30 ∧ (∀ τ22 : kT, τ22 = q_si τ16 71 j21 (0 : Int32) → L_X11_search_34 f1 f2 f3 f4 f5 K post n v19 τ22))) ∧ (v19 = ((q_i τ16 66 14) * f4) → post (1 : Int32) τ16)))) ∧ (¬ (x6 + (1 : Int32)) < ((q_i τ16 66 14) * f4) → (T_X11_areNeversMet f2 f3 f4 τ16 (fun r23 τ24 => ((r23 = 0 → L_X11_search_34 f1 f2 f3 f4 f5 K post n x6 τ24) ∧ (¬ r23 = 0 → (∀ v26 : Int32, v26 = x6 + (1 : Int32) → ((¬ v26 = ((q_i τ24 66 14) * f4) → (∃ j28 : Nat, v26 = nI j28 ∧ j28 < 30 ∧ (∀ τ29 : kT, τ29 = q_si τ24 71 j28 (0 : Int32) → L_X11_search_34 f1 f2 f3 f4 f5 K post n v26 τ29))) ∧ (v26 = ((q_i τ24 66 14) * f4) → post (1 : Int32) τ24)))))))))))))))))))))))) ∧ ((q_i τ 66 10) = (4000 : Int32) → post (-5 : Int32) τ))) ∧ ((q_i τ 71 j4) = (10 : Int32) → (∀ v30 : Int32, v30 = x6 + (-1 : Int32) → L_X11_search_34 f1 f2 f3 f4 f5 K post n v30 τ))))))
def T_X11_search (a1 : Int32) (a2 : Int32) (a3 : Int32) (a4 : Int32) (a5 : Int32) (τ : kT) (post : Int32 → kT → Prop) : Prop := ((¬ (q_i τ 66 14) = 0 → (∀ τ2 : kT, τ2 = q_si τ 71 0 (0 : Int32) → (∃ m31 : Nat, L_X11_search_34  a1 a2 a3 a4 a5 (fun v32 τ33 => post (0 : Int32) τ33) post m31 (0 : Int32) τ2))) ∧ ((q_i τ 66 14) = 0 → (T_X11_areNeversMet a2 a3 a4 τ (fun r34 τ35 => ((r34 = 0 → post (0 : Int32) τ35) ∧ (¬ r34 = 0 → post (1 : Int32) τ35))))))
set_option maxRecDepth 100000 in
set_option maxHeartbeats 4000000 in
theorem l_X11_search_34 {d : Nat}  (f1 : Int32) (f2 : Int32) (f3 : Int32) (f4 : Int32) (f5 : Int32) {K : Int32 → kT → Prop} {post : Int32 → kT → Prop} (hK : ∀ (x6 : Int32) (τ : kT), K x6 τ → U yX11_search cX11_search 7 (some .int) (d + 2) kE0 189 [some (.ref 66), some (.int f1), some (.int f2), some (.int f3), some (.int f4), some (.int f5), some (.int x6)] [] τ (k_pi post)) : ∀ (n : Nat) (x6 : Int32) (τ : kT), L_X11_search_34  f1 f2 f3 f4 f5 K post n x6 τ → U yX11_search cX11_search 7 (some .int) (d + 2) kE0 34 [some (.ref 66), some (.int f1), some (.int f2), some (.int f3), some (.int f4), some (.int f5), some (.int x6)] [] τ (k_pi post) := by
  intro n
  induction n with
  | zero => intro x6 τ h; exact h.elim
  | succ n ih =>
    intro x6 τ h
    unfold L_X11_search_34 at h
    refine v_iload dX11_search_34 rfl ?_
    refine v_if_lt (tgt := 189) dX11_search_36 (by decide) (fun c3 => ?_) (fun c3 => ?_)
    · have h := h.1 c3
      exact hK x6 _ h
    · have h := h.2 c3
      refine v_aload_n dX11_search_39 rfl rfl ?_
      refine u_getr fX11_29 dX11_search_40 sh_66 rfl (by decide) (rf_66_12 _) ?_
      refine v_iload dX11_search_43 rfl ?_
      obtain ⟨j4, e_j4, l_j4, h⟩ := h
      refine u_iald dX11_search_45 sh_71 (by decide) (by decide) e_j4 l_j4 ?_
      refine v_bipush (v := 10) dX11_search_46 (by decide) ?_
      refine v_icmp_ne (tgt := 57) dX11_search_48 (by decide) (fun c5 => ?_) (fun c5 => ?_)
      · have h := h.1 c5
        refine v_aload_n dX11_search_57 rfl rfl ?_
        refine u_geti fX11_170 dX11_search_58 sh_66 rfl (by decide) ?_
        refine v_sipush (v := 4000) dX11_search_61 (by decide) ?_
        refine v_icmp_ne (tgt := 70) dX11_search_64 (by decide) (fun c6 => ?_) (fun c6 => ?_)
        · have h := h.1 c6
          refine v_aload_n dX11_search_70 rfl rfl ?_
          refine v_dup dX11_search_71 rfl ?_
          refine u_geti fX11_170 dX11_search_72 sh_66 rfl (by decide) ?_
          refine v_iconst (v := 1) dX11_search_75 (by decide) ?_
          refine v_iadd dX11_search_76 ?_
          refine u_puti pX11_170 ⟨_, rfl⟩ dX11_search_77 sh_66 rfl (by decide) (by decide) (fun τ7 e_τ7 => ?_)
          have h := h τ7 e_τ7
          refine v_aload_n dX11_search_80 rfl rfl ?_
          refine u_getr fX11_26 dX11_search_81 sh_66 rfl (by decide) (rf_66_11 _) ?_
          refine v_iconst (v := 5) dX11_search_84 (by decide) ?_
          refine v_aload_n dX11_search_85 rfl rfl ?_
          refine u_getr fX11_32 dX11_search_86 sh_66 rfl (by decide) (rf_66_13 _) ?_
          refine v_iload dX11_search_89 rfl ?_
          refine v_iload dX11_search_91 rfl ?_
          obtain ⟨e_0, h⟩ := h
          refine v_idiv dX11_search_93 e_0 ?_
          obtain ⟨j8, e_j8, l_j8, h⟩ := h
          refine u_iald dX11_search_94 sh_72 (by decide) (by decide) e_j8 l_j8 ?_
          refine v_imul dX11_search_95 ?_
          refine v_iload dX11_search_96 rfl ?_
          refine v_iload dX11_search_98 rfl ?_
          obtain ⟨e_0, h⟩ := h
          refine v_irem dX11_search_100 e_0 ?_
          refine v_iadd dX11_search_101 ?_
          refine v_aload_n dX11_search_102 rfl rfl ?_
          refine u_getr fX11_29 dX11_search_103 sh_66 rfl (by decide) (rf_66_12 _) ?_
          refine v_iload dX11_search_106 rfl ?_
          obtain ⟨j9, e_j9, l_j9, h⟩ := h
          refine u_iald dX11_search_108 sh_71 (by decide) (by decide) e_j9 l_j9 ?_
          obtain ⟨j10, e_j10, l_j10, h⟩ := h
          refine u_iast dX11_search_109 sh_70 (by decide) (by decide) e_j10 l_j10 (fun τ11 e_τ11 => ?_)
          have h := h τ11 e_τ11
          refine v_aload_n dX11_search_110 rfl rfl ?_
          refine u_getr fX11_29 dX11_search_111 sh_66 rfl (by decide) (rf_66_12 _) ?_
          refine v_iload dX11_search_114 rfl ?_
          refine v_dup2 dX11_search_116 rfl rfl ?_
          obtain ⟨j12, e_j12, l_j12, h⟩ := h
          refine u_iald dX11_search_117 sh_71 (by decide) (by decide) e_j12 l_j12 ?_
          refine v_iconst (v := 1) dX11_search_118 (by decide) ?_
          refine v_iadd dX11_search_119 ?_
          obtain ⟨j13, e_j13, l_j13, h⟩ := h
          refine u_iast dX11_search_120 sh_71 (by decide) (by decide) e_j13 l_j13 (fun τ14 e_τ14 => ?_)
          have h := h τ14 e_τ14
          refine v_aload_n dX11_search_121 rfl rfl ?_
          refine v_iload dX11_search_122 rfl ?_
          refine v_iload_n dX11_search_124 rfl rfl ?_
          refine v_iload_n dX11_search_125 rfl rfl ?_
          refine v_iload dX11_search_126 rfl ?_
          refine v_iload dX11_search_128 rfl ?_
          refine u_callV [.int x6, .int f1, .int f3, .int f4, .int f5] mX11_stands iX11_stands lX11_184 dX11_search_130 sh_66 rfl rfl (by decide) ⟨rfl, rfl, id⟩ rfl rfl (Nat.le_of_ble_eq_true rfl) (Nat.le_of_ble_eq_true rfl) (v_X11_stands x6 f1 f3 f4 f5 _ _ h) ?_
          rintro _ τ16 ⟨r15, rfl, h⟩
          refine v_if_eq (tgt := 34) dX11_search_133 (by decide) (fun c17 => ?_) (fun c17 => ?_)
          · have h := h.1 c17
            exact ih x6 _ h
          · have h := h.2 c17
            refine v_iload dX11_search_136 rfl ?_
            refine v_iconst (v := 1) dX11_search_138 (by decide) ?_
            refine v_iadd dX11_search_139 ?_
            refine v_aload_n dX11_search_140 rfl rfl ?_
            refine u_geti fX11_164 dX11_search_141 sh_66 rfl (by decide) ?_
            refine v_iload dX11_search_144 rfl ?_
            refine v_imul dX11_search_146 ?_
            refine v_icmp_lt (tgt := 161) dX11_search_147 (by decide) (fun c18 => ?_) (fun c18 => ?_)
            · have h := h.1 c18
              obtain ⟨v19, e_v19⟩ : ∃ z : Int32, z = x6 + (1 : Int32) := ⟨_, rfl⟩
              have h := h v19 e_v19
              refine v_iinc (v := v19) dX11_search_161 rfl (by rw [e_v19]; rfl) (by decide) rfl ?_
              refine v_ls (ls2 := [some (.ref 66), some (.int f1), some (.int f2), some (.int f3), some (.int f4), some (.int f5), some (.int v19)]) rfl ?_
              refine v_iload dX11_search_164 rfl ?_
              refine v_aload_n dX11_search_166 rfl rfl ?_
              refine u_geti fX11_164 dX11_search_167 sh_66 rfl (by decide) ?_
              refine v_iload dX11_search_170 rfl ?_
              refine v_imul dX11_search_172 ?_
              refine v_icmp_ne (tgt := 178) dX11_search_173 (by decide) (fun c20 => ?_) (fun c20 => ?_)
              · have h := h.1 c20
                refine v_aload_n dX11_search_178 rfl rfl ?_
                refine u_getr fX11_29 dX11_search_179 sh_66 rfl (by decide) (rf_66_12 _) ?_
                refine v_iload dX11_search_182 rfl ?_
                refine v_iconst (v := 0) dX11_search_184 (by decide) ?_
                obtain ⟨j21, e_j21, l_j21, h⟩ := h
                refine u_iast dX11_search_185 sh_71 (by decide) (by decide) e_j21 l_j21 (fun τ22 e_τ22 => ?_)
                have h := h τ22 e_τ22
                refine v_goto (tgt := 34) dX11_search_186 (by decide) ?_
                exact ih v19 _ h
              · have h := h.2 c20
                refine v_iconst (v := 1) dX11_search_176 (by decide) ?_
                exact u_iret dX11_search_177 ⟨rfl, id⟩ h
            · have h := h.2 c18
              refine v_aload_n dX11_search_150 rfl rfl ?_
              refine v_iload_n dX11_search_151 rfl rfl ?_
              refine v_iload_n dX11_search_152 rfl rfl ?_
              refine v_iload dX11_search_153 rfl ?_
              refine u_callV [.int f2, .int f3, .int f4] mX11_areNeversMet iX11_areNeversMet lX11_180 dX11_search_155 sh_66 rfl rfl (by decide) ⟨rfl, rfl, id⟩ rfl rfl (Nat.le_of_ble_eq_true rfl) (Nat.le_of_ble_eq_true rfl) (v_X11_areNeversMet f2 f3 f4 _ _ h) ?_
              rintro _ τ24 ⟨r23, rfl, h⟩
              refine v_if_eq (tgt := 34) dX11_search_158 (by decide) (fun c25 => ?_) (fun c25 => ?_)
              · have h := h.1 c25
                exact ih x6 _ h
              · have h := h.2 c25
                obtain ⟨v26, e_v26⟩ : ∃ z : Int32, z = x6 + (1 : Int32) := ⟨_, rfl⟩
                have h := h v26 e_v26
                refine v_iinc (v := v26) dX11_search_161 rfl (by rw [e_v26]; rfl) (by decide) rfl ?_
                refine v_ls (ls2 := [some (.ref 66), some (.int f1), some (.int f2), some (.int f3), some (.int f4), some (.int f5), some (.int v26)]) rfl ?_
                refine v_iload dX11_search_164 rfl ?_
                refine v_aload_n dX11_search_166 rfl rfl ?_
                refine u_geti fX11_164 dX11_search_167 sh_66 rfl (by decide) ?_
                refine v_iload dX11_search_170 rfl ?_
                refine v_imul dX11_search_172 ?_
                refine v_icmp_ne (tgt := 178) dX11_search_173 (by decide) (fun c27 => ?_) (fun c27 => ?_)
                · have h := h.1 c27
                  refine v_aload_n dX11_search_178 rfl rfl ?_
                  refine u_getr fX11_29 dX11_search_179 sh_66 rfl (by decide) (rf_66_12 _) ?_
                  refine v_iload dX11_search_182 rfl ?_
                  refine v_iconst (v := 0) dX11_search_184 (by decide) ?_
                  obtain ⟨j28, e_j28, l_j28, h⟩ := h
                  refine u_iast dX11_search_185 sh_71 (by decide) (by decide) e_j28 l_j28 (fun τ29 e_τ29 => ?_)
                  have h := h τ29 e_τ29
                  refine v_goto (tgt := 34) dX11_search_186 (by decide) ?_
                  exact ih v26 _ h
                · have h := h.2 c27
                  refine v_iconst (v := 1) dX11_search_176 (by decide) ?_
                  exact u_iret dX11_search_177 ⟨rfl, id⟩ h
        · have h := h.2 c6
          refine v_bipush (v := -5) dX11_search_67 (by decide) ?_
          exact u_iret dX11_search_69 ⟨rfl, id⟩ h
      · have h := h.2 c5
        obtain ⟨v30, e_v30⟩ : ∃ z : Int32, z = x6 + (-1 : Int32) := ⟨_, rfl⟩
        have h := h v30 e_v30
        refine v_iinc (v := v30) dX11_search_51 rfl (by rw [e_v30]; rfl) (by decide) rfl ?_
        refine v_ls (ls2 := [some (.ref 66), some (.int f1), some (.int f2), some (.int f3), some (.int f4), some (.int f5), some (.int v30)]) rfl ?_
        refine v_goto (tgt := 34) dX11_search_54 (by decide) ?_
        exact ih v30 _ h
set_option maxRecDepth 100000 in
set_option maxHeartbeats 4000000 in
theorem v_X11_search {d : Nat}  (a1 : Int32) (a2 : Int32) (a3 : Int32) (a4 : Int32) (a5 : Int32) (τ : kT) (post : Int32 → kT → Prop) (h : T_X11_search  a1 a2 a3 a4 a5 τ post) : U yX11_search cX11_search 7 (some .int) (d + 2) kE0 0 [some (.ref 66), some (.int a1), some (.int a2), some (.int a3), some (.int a4), some (.int a5), none] [] τ (k_pi post) := by
  unfold T_X11_search at h
  refine v_aload_n dX11_search_0 rfl rfl ?_
  refine u_geti fX11_164 dX11_search_1 sh_66 rfl (by decide) ?_
  refine v_if_ne (tgt := 24) dX11_search_4 (by decide) (fun c1 => ?_) (fun c1 => ?_)
  · have h := h.1 c1
    refine v_iconst (v := 0) dX11_search_24 (by decide) ?_
    refine v_istore dX11_search_25 (by decide) rfl ?_
    refine v_ls (ls2 := [some (.ref 66), some (.int a1), some (.int a2), some (.int a3), some (.int a4), some (.int a5), some (.int (0 : Int32))]) rfl ?_
    refine v_aload_n dX11_search_27 rfl rfl ?_
    refine u_getr fX11_29 dX11_search_28 sh_66 rfl (by decide) (rf_66_12 _) ?_
    refine v_iconst (v := 0) dX11_search_31 (by decide) ?_
    refine v_iconst (v := 0) dX11_search_32 (by decide) ?_
    refine u_iast dX11_search_33 sh_71 (by decide) (by decide) rfl (by decide) (fun τ2 e_τ2 => ?_)
    have h := h τ2 e_τ2
    obtain ⟨m31, h⟩ := h
    refine l_X11_search_34  a1 a2 a3 a4 a5 (fun v32 τ33 h => ?_) m31 (0 : Int32) _ h
    refine v_iconst (v := 0) dX11_search_189 (by decide) ?_
    exact u_iret dX11_search_190 ⟨rfl, id⟩ h
  · have h := h.2 c1
    refine v_aload_n dX11_search_7 rfl rfl ?_
    refine v_iload_n dX11_search_8 rfl rfl ?_
    refine v_iload_n dX11_search_9 rfl rfl ?_
    refine v_iload dX11_search_10 rfl ?_
    refine u_callV [.int a2, .int a3, .int a4] mX11_areNeversMet iX11_areNeversMet lX11_180 dX11_search_12 sh_66 rfl rfl (by decide) ⟨rfl, rfl, id⟩ rfl rfl (Nat.le_of_ble_eq_true rfl) (Nat.le_of_ble_eq_true rfl) (v_X11_areNeversMet a2 a3 a4 _ _ h) ?_
    rintro _ τ35 ⟨r34, rfl, h⟩
    refine v_if_eq (tgt := 22) dX11_search_15 (by decide) (fun c36 => ?_) (fun c36 => ?_)
    · have h := h.1 c36
      refine v_iconst (v := 0) dX11_search_22 (by decide) ?_
      exact u_iret dX11_search_23 ⟨rfl, id⟩ h
    · have h := h.2 c36
      refine v_iconst (v := 1) dX11_search_18 (by decide) ?_
      refine v_goto (tgt := 23) dX11_search_19 (by decide) ?_
      exact u_iret dX11_search_23 ⟨rfl, id⟩ h
def L_X11_take_33  (f1 : Int32) (f2 : Int32) (f3 : Int32) (f4 : Int32) (K : Int32 → kT → Prop) (post : kT → Prop) : Nat → Int32 → kT → Prop
  | 0, _, _ => False
  | n + 1, x5, τ => ((f2 ≤ x5 → K x5 τ) ∧ (¬ f2 ≤ x5 → (∃ j7 : Nat, (((5 : Int32) * f4) + x5) = nI j7 ∧ j7 < 30 ∧ (∃ j8 : Nat, (((2300 : Int32) + ((18 : Int32) * f4)) + x5) = nI j8 ∧ j8 < 8530 ∧ (∀ τ9 : kT, τ9 = q_si τ 67 j8 (q_i τ 70 j7) → (∀ v10 : Int32, v10 = x5 + (1 : Int32) → L_X11_take_33 f1 f2 f3 f4 K post n v10 τ9))))))
def L_X11_take_2  (f1 : Int32) (f2 : Int32) (K : Int32 → kT → Prop) (post : kT → Prop) : Nat → Int32 → kT → Prop
  | 0, _, _ => False
  | n + 1, x3, τ => (((q_i τ 66 14) ≤ x3 → K x3 τ) ∧ (¬ (q_i τ 66 14) ≤ x3 → (∃ j2 : Nat, x3 = nI j2 ∧ j2 < 6 ∧ (∀ v3 : Int32, v3 = (q_i τ 72 j2) → (∃ j4 : Nat, ((2200 : Int32) + v3) = nI j4 ∧ j4 < 8530 ∧ (∀ τ5 : kT, τ5 = q_si τ 67 j4 f2 → (∃ m11 : Nat, L_X11_take_33  f1 f2 x3 v3 (fun v12 τ13 => (∀ v14 : Int32, v14 = x3 + (1 : Int32) → L_X11_take_2 f1 f2 K post n v14 τ13)) post m11 (0 : Int32) τ5)))))))
def L_X11_take_90  (f1 : Int32) (f2 : Int32) (f3 : Int32) (K : Int32 → kT → Prop) (post : kT → Prop) : Nat → Int32 → kT → Prop
  | 0, _, _ => False
  | n + 1, x4, τ => ((f2 ≤ x4 → K x4 τ) ∧ (¬ f2 ≤ x4 → (∃ j20 : Nat, ((4464 : Int32) + f3) = nI j20 ∧ j20 < 8530 ∧ (∃ j21 : Nat, (((5 : Int32) * f3) + x4) = nI j21 ∧ j21 < 30 ∧ (∃ j22 : Nat, (((400 : Int32) + ((18 : Int32) * (q_i τ 67 j20))) + x4) = nI j22 ∧ j22 < 8530 ∧ (∀ τ23 : kT, τ23 = q_si τ 67 j22 (q_i τ 74 j21) → (∀ v24 : Int32, v24 = x4 + (1 : Int32) → L_X11_take_90 f1 f2 f3 K post n v24 τ23)))))))
def L_X11_take_82  (f1 : Int32) (f2 : Int32) (K : Int32 → kT → Prop) (post : kT → Prop) : Nat → Int32 → kT → Prop
  | 0, _, _ => False
  | n + 1, x3, τ => ((f1 ≤ x3 → K x3 τ) ∧ (¬ f1 ≤ x3 → (∃ m25 : Nat, L_X11_take_90  f1 f2 x3 (fun v26 τ27 => (∀ v28 : Int32, v28 = x3 + (1 : Int32) → L_X11_take_82 f1 f2 K post n v28 τ27)) post m25 (0 : Int32) τ)))
def T_X11_take (a1 : Int32) (a2 : Int32) (τ : kT) (post : kT → Prop) : Prop := (∃ m15 : Nat, L_X11_take_2  a1 a2 (fun v16 τ17 => (∃ m29 : Nat, L_X11_take_82  a1 a2 (fun v30 τ31 => post τ31) post m29 (0 : Int32) τ17)) post m15 (0 : Int32) τ)
set_option maxRecDepth 100000 in
set_option maxHeartbeats 4000000 in
theorem l_X11_take_33 {d : Nat}  (f1 : Int32) (f2 : Int32) (f3 : Int32) (f4 : Int32) {K : Int32 → kT → Prop} {post : kT → Prop} (hK : ∀ (x5 : Int32) (τ : kT), K x5 τ → U yX11_take cX11_take 6 none (d + 0) kE0 74 [some (.ref 66), some (.int f1), some (.int f2), some (.int f3), some (.int f4), some (.int x5)] [] τ (k_pv post)) : ∀ (n : Nat) (x5 : Int32) (τ : kT), L_X11_take_33  f1 f2 f3 f4 K post n x5 τ → U yX11_take cX11_take 6 none (d + 0) kE0 33 [some (.ref 66), some (.int f1), some (.int f2), some (.int f3), some (.int f4), some (.int x5)] [] τ (k_pv post) := by
  intro n
  induction n with
  | zero => intro x5 τ h; exact h.elim
  | succ n ih =>
    intro x5 τ h
    unfold L_X11_take_33 at h
    refine v_iload dX11_take_33 rfl ?_
    refine v_iload_n dX11_take_35 rfl rfl ?_
    refine v_icmp_ge (tgt := 74) dX11_take_36 (by decide) (fun c6 => ?_) (fun c6 => ?_)
    · have h := h.1 c6
      exact hK x5 _ h
    · have h := h.2 c6
      refine v_aload_n dX11_take_39 rfl rfl ?_
      refine u_getr fX11_7 dX11_take_40 sh_66 rfl (by decide) (rf_66_0 _) ?_
      refine v_sipush (v := 2300) dX11_take_43 (by decide) ?_
      refine v_bipush (v := 18) dX11_take_46 (by decide) ?_
      refine v_iload dX11_take_48 rfl ?_
      refine v_imul dX11_take_50 ?_
      refine v_iadd dX11_take_51 ?_
      refine v_iload dX11_take_52 rfl ?_
      refine v_iadd dX11_take_54 ?_
      refine v_aload_n dX11_take_55 rfl rfl ?_
      refine u_getr fX11_26 dX11_take_56 sh_66 rfl (by decide) (rf_66_11 _) ?_
      refine v_iconst (v := 5) dX11_take_59 (by decide) ?_
      refine v_iload dX11_take_60 rfl ?_
      refine v_imul dX11_take_62 ?_
      refine v_iload dX11_take_63 rfl ?_
      refine v_iadd dX11_take_65 ?_
      obtain ⟨j7, e_j7, l_j7, h⟩ := h
      refine u_iald dX11_take_66 sh_70 (by decide) (by decide) e_j7 l_j7 ?_
      obtain ⟨j8, e_j8, l_j8, h⟩ := h
      refine u_iast dX11_take_67 sh_67 (by decide) (by decide) e_j8 l_j8 (fun τ9 e_τ9 => ?_)
      have h := h τ9 e_τ9
      obtain ⟨v10, e_v10⟩ : ∃ z : Int32, z = x5 + (1 : Int32) := ⟨_, rfl⟩
      have h := h v10 e_v10
      refine v_iinc (v := v10) dX11_take_68 rfl (by rw [e_v10]; rfl) (by decide) rfl ?_
      refine v_ls (ls2 := [some (.ref 66), some (.int f1), some (.int f2), some (.int f3), some (.int f4), some (.int v10)]) rfl ?_
      refine v_goto (tgt := 33) dX11_take_71 (by decide) ?_
      exact ih v10 _ h
set_option maxRecDepth 100000 in
set_option maxHeartbeats 4000000 in
theorem l_X11_take_2 {d : Nat}  (f1 : Int32) (f2 : Int32) {K : Int32 → kT → Prop} {post : kT → Prop} (hK : ∀ (x3 : Int32) (τ : kT), K x3 τ → U yX11_take cX11_take 6 none (d + 0) kE0 80 [some (.ref 66), some (.int f1), some (.int f2), some (.int x3), none, none] [] τ (k_pv post)) : ∀ (n : Nat) (x3 : Int32) (τ : kT), L_X11_take_2  f1 f2 K post n x3 τ → U yX11_take cX11_take 6 none (d + 0) kE0 2 [some (.ref 66), some (.int f1), some (.int f2), some (.int x3), none, none] [] τ (k_pv post) := by
  intro n
  induction n with
  | zero => intro x3 τ h; exact h.elim
  | succ n ih =>
    intro x3 τ h
    unfold L_X11_take_2 at h
    refine v_iload_n dX11_take_2 rfl rfl ?_
    refine v_aload_n dX11_take_3 rfl rfl ?_
    refine u_geti fX11_164 dX11_take_4 sh_66 rfl (by decide) ?_
    refine v_icmp_ge (tgt := 80) dX11_take_7 (by decide) (fun c1 => ?_) (fun c1 => ?_)
    · have h := h.1 c1
      exact hK x3 _ h
    · have h := h.2 c1
      refine v_aload_n dX11_take_10 rfl rfl ?_
      refine u_getr fX11_32 dX11_take_11 sh_66 rfl (by decide) (rf_66_13 _) ?_
      refine v_iload_n dX11_take_14 rfl rfl ?_
      obtain ⟨j2, e_j2, l_j2, h⟩ := h
      refine u_iald dX11_take_15 sh_72 (by decide) (by decide) e_j2 l_j2 ?_
      refine v_topi (fun v3 e_v3 => ?_)
      have h := h v3 e_v3
      refine v_istore dX11_take_16 (by decide) rfl ?_
      refine v_ls (ls2 := [some (.ref 66), some (.int f1), some (.int f2), some (.int x3), some (.int v3), none]) rfl ?_
      refine v_aload_n dX11_take_18 rfl rfl ?_
      refine u_getr fX11_7 dX11_take_19 sh_66 rfl (by decide) (rf_66_0 _) ?_
      refine v_sipush (v := 2200) dX11_take_22 (by decide) ?_
      refine v_iload dX11_take_25 rfl ?_
      refine v_iadd dX11_take_27 ?_
      refine v_iload_n dX11_take_28 rfl rfl ?_
      obtain ⟨j4, e_j4, l_j4, h⟩ := h
      refine u_iast dX11_take_29 sh_67 (by decide) (by decide) e_j4 l_j4 (fun τ5 e_τ5 => ?_)
      have h := h τ5 e_τ5
      refine v_iconst (v := 0) dX11_take_30 (by decide) ?_
      refine v_istore dX11_take_31 (by decide) rfl ?_
      refine v_ls (ls2 := [some (.ref 66), some (.int f1), some (.int f2), some (.int x3), some (.int v3), some (.int (0 : Int32))]) rfl ?_
      obtain ⟨m11, h⟩ := h
      refine l_X11_take_33  f1 f2 x3 v3 (fun v12 τ13 h => ?_) m11 (0 : Int32) _ h
      obtain ⟨v14, e_v14⟩ : ∃ z : Int32, z = x3 + (1 : Int32) := ⟨_, rfl⟩
      have h := h v14 e_v14
      refine v_iinc (v := v14) dX11_take_74 rfl (by rw [e_v14]; rfl) (by decide) rfl ?_
      refine v_ls (ls2 := [some (.ref 66), some (.int f1), some (.int f2), some (.int v14), some (.int v3), some (.int v12)]) rfl ?_
      refine v_goto (tgt := 2) dX11_take_77 (by decide) ?_
      refine v_none 4 ?_
      refine v_ls (ls2 := [some (.ref 66), some (.int f1), some (.int f2), some (.int v14), none, some (.int v12)]) rfl ?_
      refine v_none 5 ?_
      refine v_ls (ls2 := [some (.ref 66), some (.int f1), some (.int f2), some (.int v14), none, none]) rfl ?_
      exact ih v14 _ h
set_option maxRecDepth 100000 in
set_option maxHeartbeats 4000000 in
theorem l_X11_take_90 {d : Nat}  (f1 : Int32) (f2 : Int32) (f3 : Int32) {K : Int32 → kT → Prop} {post : kT → Prop} (hK : ∀ (x4 : Int32) (τ : kT), K x4 τ → U yX11_take cX11_take 6 none (d + 0) kE0 138 [some (.ref 66), some (.int f1), some (.int f2), some (.int f3), some (.int x4), none] [] τ (k_pv post)) : ∀ (n : Nat) (x4 : Int32) (τ : kT), L_X11_take_90  f1 f2 f3 K post n x4 τ → U yX11_take cX11_take 6 none (d + 0) kE0 90 [some (.ref 66), some (.int f1), some (.int f2), some (.int f3), some (.int x4), none] [] τ (k_pv post) := by
  intro n
  induction n with
  | zero => intro x4 τ h; exact h.elim
  | succ n ih =>
    intro x4 τ h
    unfold L_X11_take_90 at h
    refine v_iload dX11_take_90 rfl ?_
    refine v_iload_n dX11_take_92 rfl rfl ?_
    refine v_icmp_ge (tgt := 138) dX11_take_93 (by decide) (fun c19 => ?_) (fun c19 => ?_)
    · have h := h.1 c19
      exact hK x4 _ h
    · have h := h.2 c19
      refine v_aload_n dX11_take_96 rfl rfl ?_
      refine u_getr fX11_7 dX11_take_97 sh_66 rfl (by decide) (rf_66_0 _) ?_
      refine v_sipush (v := 400) dX11_take_100 (by decide) ?_
      refine v_bipush (v := 18) dX11_take_103 (by decide) ?_
      refine v_aload_n dX11_take_105 rfl rfl ?_
      refine u_getr fX11_7 dX11_take_106 sh_66 rfl (by decide) (rf_66_0 _) ?_
      refine v_sipush (v := 4464) dX11_take_109 (by decide) ?_
      refine v_iload_n dX11_take_112 rfl rfl ?_
      refine v_iadd dX11_take_113 ?_
      obtain ⟨j20, e_j20, l_j20, h⟩ := h
      refine u_iald dX11_take_114 sh_67 (by decide) (by decide) e_j20 l_j20 ?_
      refine v_imul dX11_take_115 ?_
      refine v_iadd dX11_take_116 ?_
      refine v_iload dX11_take_117 rfl ?_
      refine v_iadd dX11_take_119 ?_
      refine v_aload_n dX11_take_120 rfl rfl ?_
      refine u_getr fX11_38 dX11_take_121 sh_66 rfl (by decide) (rf_66_16 _) ?_
      refine v_iconst (v := 5) dX11_take_124 (by decide) ?_
      refine v_iload_n dX11_take_125 rfl rfl ?_
      refine v_imul dX11_take_126 ?_
      refine v_iload dX11_take_127 rfl ?_
      refine v_iadd dX11_take_129 ?_
      obtain ⟨j21, e_j21, l_j21, h⟩ := h
      refine u_iald dX11_take_130 sh_74 (by decide) (by decide) e_j21 l_j21 ?_
      obtain ⟨j22, e_j22, l_j22, h⟩ := h
      refine u_iast dX11_take_131 sh_67 (by decide) (by decide) e_j22 l_j22 (fun τ23 e_τ23 => ?_)
      have h := h τ23 e_τ23
      obtain ⟨v24, e_v24⟩ : ∃ z : Int32, z = x4 + (1 : Int32) := ⟨_, rfl⟩
      have h := h v24 e_v24
      refine v_iinc (v := v24) dX11_take_132 rfl (by rw [e_v24]; rfl) (by decide) rfl ?_
      refine v_ls (ls2 := [some (.ref 66), some (.int f1), some (.int f2), some (.int f3), some (.int v24), none]) rfl ?_
      refine v_goto (tgt := 90) dX11_take_135 (by decide) ?_
      exact ih v24 _ h
set_option maxRecDepth 100000 in
set_option maxHeartbeats 4000000 in
theorem l_X11_take_82 {d : Nat}  (f1 : Int32) (f2 : Int32) {K : Int32 → kT → Prop} {post : kT → Prop} (hK : ∀ (x3 : Int32) (τ : kT), K x3 τ → U yX11_take cX11_take 6 none (d + 0) kE0 144 [some (.ref 66), some (.int f1), some (.int f2), some (.int x3), none, none] [] τ (k_pv post)) : ∀ (n : Nat) (x3 : Int32) (τ : kT), L_X11_take_82  f1 f2 K post n x3 τ → U yX11_take cX11_take 6 none (d + 0) kE0 82 [some (.ref 66), some (.int f1), some (.int f2), some (.int x3), none, none] [] τ (k_pv post) := by
  intro n
  induction n with
  | zero => intro x3 τ h; exact h.elim
  | succ n ih =>
    intro x3 τ h
    unfold L_X11_take_82 at h
    refine v_iload_n dX11_take_82 rfl rfl ?_
    refine v_iload_n dX11_take_83 rfl rfl ?_
    refine v_icmp_ge (tgt := 144) dX11_take_84 (by decide) (fun c18 => ?_) (fun c18 => ?_)
    · have h := h.1 c18
      exact hK x3 _ h
    · have h := h.2 c18
      refine v_iconst (v := 0) dX11_take_87 (by decide) ?_
      refine v_istore dX11_take_88 (by decide) rfl ?_
      refine v_ls (ls2 := [some (.ref 66), some (.int f1), some (.int f2), some (.int x3), some (.int (0 : Int32)), none]) rfl ?_
      obtain ⟨m25, h⟩ := h
      refine l_X11_take_90  f1 f2 x3 (fun v26 τ27 h => ?_) m25 (0 : Int32) _ h
      obtain ⟨v28, e_v28⟩ : ∃ z : Int32, z = x3 + (1 : Int32) := ⟨_, rfl⟩
      have h := h v28 e_v28
      refine v_iinc (v := v28) dX11_take_138 rfl (by rw [e_v28]; rfl) (by decide) rfl ?_
      refine v_ls (ls2 := [some (.ref 66), some (.int f1), some (.int f2), some (.int v28), some (.int v26), none]) rfl ?_
      refine v_goto (tgt := 82) dX11_take_141 (by decide) ?_
      refine v_none 4 ?_
      refine v_ls (ls2 := [some (.ref 66), some (.int f1), some (.int f2), some (.int v28), none, none]) rfl ?_
      exact ih v28 _ h
set_option maxRecDepth 100000 in
set_option maxHeartbeats 4000000 in
theorem v_X11_take {d : Nat}  (a1 : Int32) (a2 : Int32) (τ : kT) (post : kT → Prop) (h : T_X11_take  a1 a2 τ post) : U yX11_take cX11_take 6 none (d + 0) kE0 0 [some (.ref 66), some (.int a1), some (.int a2), none, none, none] [] τ (k_pv post) := by
  unfold T_X11_take at h
  refine v_iconst (v := 0) dX11_take_0 (by decide) ?_
  refine v_istore_n dX11_take_1 rfl (by decide) rfl ?_
  refine v_ls (ls2 := [some (.ref 66), some (.int a1), some (.int a2), some (.int (0 : Int32)), none, none]) rfl ?_
  obtain ⟨m15, h⟩ := h
  refine l_X11_take_2  a1 a2 (fun v16 τ17 h => ?_) m15 (0 : Int32) _ h
  refine v_iconst (v := 0) dX11_take_80 (by decide) ?_
  refine v_istore_n dX11_take_81 rfl (by decide) rfl ?_
  refine v_ls (ls2 := [some (.ref 66), some (.int a1), some (.int a2), some (.int (0 : Int32)), none, none]) rfl ?_
  obtain ⟨m29, h⟩ := h
  refine l_X11_take_82  a1 a2 (fun v30 τ31 h => ?_) m29 (0 : Int32) _ h
  exact u_vret dX11_take_144 ⟨rfl, id⟩ h
def L_X11_searched_77  (f1 : Int32) (f2 : Int32) (f3 : Int32) (f4 : Int32) (f5 : Int32) (f6 : Int32) (f7 : Int32) (K : Int32 → kT → Prop) (post : Int32 → kT → Prop) : Nat → Int32 → kT → Prop
  | 0, _, _ => False
  | n + 1, x8, τ => ((f3 ≤ x8 → K x8 τ) ∧ (¬ f3 ≤ x8 → (∃ j8 : Nat, (((4504 : Int32) + ((40 : Int32) * f7)) + x8) = nI j8 ∧ j8 < 8530 ∧ (∀ v9 : Int32, v9 = (q_i τ 67 j8) → ((f7 = f1 → (T_X11_would f7 x8 τ (fun r11 τ12 => ((r11 = 0 → (∃ j14 : Nat, (((6 : Int32) * f7) + x8) = nI j14 ∧ j14 < 36 ∧ (∀ τ15 : kT, τ15 = q_si τ12 73 j14 (0 : Int32) → (∀ v16 : Int32, v16 = x8 + (1 : Int32) → L_X11_searched_77 f1 f2 f3 f4 f5 f6 f7 K post n v16 τ15)))) ∧ (¬ r11 = 0 → (∃ j17 : Nat, (((6 : Int32) * f7) + x8) = nI j17 ∧ j17 < 36 ∧ (∀ τ18 : kT, τ18 = q_si τ12 73 j17 (2 : Int32) → (∀ v19 : Int32, v19 = x8 + (1 : Int32) → L_X11_searched_77 f1 f2 f3 f4 f5 f6 f7 K post n v19 τ18)))))))) ∧ (¬ f7 = f1 → (∃ j20 : Nat, (((6 : Int32) * f7) + x8) = nI j20 ∧ j20 < 36 ∧ (∀ τ21 : kT, τ21 = q_si τ 73 j20 v9 → (∀ v22 : Int32, v22 = x8 + (1 : Int32) → L_X11_searched_77 f1 f2 f3 f4 f5 f6 f7 K post n v22 τ21)))))))))
def L_X11_searched_151  (f1 : Int32) (f2 : Int32) (f3 : Int32) (f4 : Int32) (f5 : Int32) (f6 : Int32) (f7 : Int32) (K : Int32 → kT → Prop) (post : Int32 → kT → Prop) : Nat → Int32 → kT → Prop
  | 0, _, _ => False
  | n + 1, x8, τ => ((f4 ≤ x8 → K x8 τ) ∧ (¬ f4 ≤ x8 → ((¬ f7 = f1 → K x8 τ) ∧ (f7 = f1 → (∃ j28 : Nat, (((2300 : Int32) + ((18 : Int32) * f7)) + x8) = nI j28 ∧ j28 < 8530 ∧ (∃ j29 : Nat, (((5 : Int32) * f7) + x8) = nI j29 ∧ j29 < 30 ∧ (∀ τ30 : kT, τ30 = q_si τ 70 j29 (q_i τ 67 j28) → (∀ v31 : Int32, v31 = x8 + (1 : Int32) → L_X11_searched_151 f1 f2 f3 f4 f5 f6 f7 K post n v31 τ30))))))))
def L_X11_searched_41  (f1 : Int32) (f2 : Int32) (f3 : Int32) (f4 : Int32) (f5 : Int32) (f6 : Int32) (K : Int32 → kT → Prop) (post : Int32 → kT → Prop) : Nat → Int32 → kT → Prop
  | 0, _, _ => False
  | n + 1, x7, τ => ((f2 ≤ x7 → K x7 τ) ∧ (¬ f2 ≤ x7 → ((x7 = f1 → (∃ m23 : Nat, L_X11_searched_77  f1 f2 f3 f4 f5 f6 x7 (fun v24 τ25 => (∃ m32 : Nat, L_X11_searched_151  f1 f2 f3 f4 f5 f6 x7 (fun v33 τ34 => (∀ v35 : Int32, v35 = x7 + (1 : Int32) → L_X11_searched_41 f1 f2 f3 f4 f5 f6 K post n v35 τ34)) post m32 (0 : Int32) τ25)) post m23 (0 : Int32) τ)) ∧ (¬ x7 = f1 → (∃ j36 : Nat, (q_i τ 66 14) = nI j36 ∧ j36 < 6 ∧ (∀ τ37 : kT, τ37 = q_si τ 72 j36 x7 → (∀ τ38 : kT, τ38 = q_si τ37 66 14 ((q_i τ37 66 14) + (1 : Int32)) → (∃ m39 : Nat, L_X11_searched_77  f1 f2 f3 f4 f5 f6 x7 (fun v40 τ41 => (∃ m42 : Nat, L_X11_searched_151  f1 f2 f3 f4 f5 f6 x7 (fun v43 τ44 => (∀ v45 : Int32, v45 = x7 + (1 : Int32) → L_X11_searched_41 f1 f2 f3 f4 f5 f6 K post n v45 τ44)) post m42 (0 : Int32) τ41)) post m39 (0 : Int32) τ38))))))))
def T_X11_searched (a1 : Int32) (a2 : Int32) (a3 : Int32) (a4 : Int32) (a5 : Int32) (τ : kT) (post : Int32 → kT → Prop) : Prop := (T_X11_against a3 a4 τ (fun r1 τ2 => ((r1 = 0 → (∀ τ4 : kT, τ4 = q_si τ2 66 14 (0 : Int32) → (∃ m46 : Nat, L_X11_searched_41  a1 a2 a3 a4 a5 r1 (fun v47 τ48 => (∀ τ49 : kT, τ49 = q_si τ48 66 10 (0 : Int32) → (T_X11_search a1 a2 a3 a4 a5 τ49 (fun r50 τ51 => ((¬ r50 = (1 : Int32) → (T_X11_well r50 τ51 (fun r53 τ54 => post r53 τ54))) ∧ (r50 = (1 : Int32) → (T_X11_change  τ51 (fun τ56 => (T_X11_take a3 a4 τ56 (fun τ58 => (T_X11_well r50 τ58 (fun r59 τ60 => post r59 τ60)))))))))))) post m46 (0 : Int32) τ4))) ∧ (¬ r1 = 0 → ((¬ r1 = (-3 : Int32) → (T_X11_met r1 τ2 (fun r62 τ63 => post r62 τ63))) ∧ (r1 = (-3 : Int32) → post (-3 : Int32) τ2))))))
set_option maxRecDepth 100000 in
set_option maxHeartbeats 4000000 in
theorem l_X11_searched_77 {d : Nat}  (f1 : Int32) (f2 : Int32) (f3 : Int32) (f4 : Int32) (f5 : Int32) (f6 : Int32) (f7 : Int32) {K : Int32 → kT → Prop} {post : Int32 → kT → Prop} (hK : ∀ (x8 : Int32) (τ : kT), K x8 τ → U yX11_searched cX11_searched 10 (some .int) (d + 5) kE0 148 [some (.ref 66), some (.int f1), some (.int f2), some (.int f3), some (.int f4), some (.int f5), some (.int f6), some (.int f7), some (.int x8), none] [] τ (k_pi post)) : ∀ (n : Nat) (x8 : Int32) (τ : kT), L_X11_searched_77  f1 f2 f3 f4 f5 f6 f7 K post n x8 τ → U yX11_searched cX11_searched 10 (some .int) (d + 5) kE0 77 [some (.ref 66), some (.int f1), some (.int f2), some (.int f3), some (.int f4), some (.int f5), some (.int f6), some (.int f7), some (.int x8), none] [] τ (k_pi post) := by
  intro n
  induction n with
  | zero => intro x8 τ h; exact h.elim
  | succ n ih =>
    intro x8 τ h
    unfold L_X11_searched_77 at h
    refine v_iload dX11_searched_77 rfl ?_
    refine v_iload_n dX11_searched_79 rfl rfl ?_
    refine v_icmp_ge (tgt := 148) dX11_searched_80 (by decide) (fun c7 => ?_) (fun c7 => ?_)
    · have h := h.1 c7
      exact hK x8 _ h
    · have h := h.2 c7
      refine v_aload_n dX11_searched_83 rfl rfl ?_
      refine u_getr fX11_7 dX11_searched_84 sh_66 rfl (by decide) (rf_66_0 _) ?_
      refine v_sipush (v := 4504) dX11_searched_87 (by decide) ?_
      refine v_bipush (v := 40) dX11_searched_90 (by decide) ?_
      refine v_iload dX11_searched_92 rfl ?_
      refine v_imul dX11_searched_94 ?_
      refine v_iadd dX11_searched_95 ?_
      refine v_iload dX11_searched_96 rfl ?_
      refine v_iadd dX11_searched_98 ?_
      obtain ⟨j8, e_j8, l_j8, h⟩ := h
      refine u_iald dX11_searched_99 sh_67 (by decide) (by decide) e_j8 l_j8 ?_
      refine v_topi (fun v9 e_v9 => ?_)
      have h := h v9 e_v9
      refine v_istore dX11_searched_100 (by decide) rfl ?_
      refine v_ls (ls2 := [some (.ref 66), some (.int f1), some (.int f2), some (.int f3), some (.int f4), some (.int f5), some (.int f6), some (.int f7), some (.int x8), some (.int v9)]) rfl ?_
      refine v_aload_n dX11_searched_102 rfl rfl ?_
      refine u_getr fX11_35 dX11_searched_103 sh_66 rfl (by decide) (rf_66_15 _) ?_
      refine v_bipush (v := 6) dX11_searched_106 (by decide) ?_
      refine v_iload dX11_searched_108 rfl ?_
      refine v_imul dX11_searched_110 ?_
      refine v_iload dX11_searched_111 rfl ?_
      refine v_iadd dX11_searched_113 ?_
      refine v_iload dX11_searched_114 rfl ?_
      refine v_iload_n dX11_searched_116 rfl rfl ?_
      refine v_icmp_eq (tgt := 125) dX11_searched_117 (by decide) (fun c10 => ?_) (fun c10 => ?_)
      · have h := h.1 c10
        refine v_aload_n dX11_searched_125 rfl rfl ?_
        refine v_iload dX11_searched_126 rfl ?_
        refine v_iload dX11_searched_128 rfl ?_
        refine u_callV [.int f7, .int x8] mX11_would iX11_would lX11_167 dX11_searched_130 sh_66 rfl rfl (by decide) ⟨rfl, rfl, id⟩ rfl rfl (Nat.le_of_ble_eq_true rfl) (Nat.le_of_ble_eq_true rfl) (v_X11_would f7 x8 _ _ h) ?_
        rintro _ τ12 ⟨r11, rfl, h⟩
        refine v_if_eq (tgt := 140) dX11_searched_133 (by decide) (fun c13 => ?_) (fun c13 => ?_)
        · have h := h.1 c13
          refine v_iconst (v := 0) dX11_searched_140 (by decide) ?_
          obtain ⟨j14, e_j14, l_j14, h⟩ := h
          refine u_iast dX11_searched_141 sh_73 (by decide) (by decide) e_j14 l_j14 (fun τ15 e_τ15 => ?_)
          have h := h τ15 e_τ15
          obtain ⟨v16, e_v16⟩ : ∃ z : Int32, z = x8 + (1 : Int32) := ⟨_, rfl⟩
          have h := h v16 e_v16
          refine v_iinc (v := v16) dX11_searched_142 rfl (by rw [e_v16]; rfl) (by decide) rfl ?_
          refine v_ls (ls2 := [some (.ref 66), some (.int f1), some (.int f2), some (.int f3), some (.int f4), some (.int f5), some (.int f6), some (.int f7), some (.int v16), some (.int v9)]) rfl ?_
          refine v_goto (tgt := 77) dX11_searched_145 (by decide) ?_
          refine v_none 9 ?_
          refine v_ls (ls2 := [some (.ref 66), some (.int f1), some (.int f2), some (.int f3), some (.int f4), some (.int f5), some (.int f6), some (.int f7), some (.int v16), none]) rfl ?_
          exact ih v16 _ h
        · have h := h.2 c13
          refine v_iconst (v := 2) dX11_searched_136 (by decide) ?_
          refine v_goto (tgt := 141) dX11_searched_137 (by decide) ?_
          obtain ⟨j17, e_j17, l_j17, h⟩ := h
          refine u_iast dX11_searched_141 sh_73 (by decide) (by decide) e_j17 l_j17 (fun τ18 e_τ18 => ?_)
          have h := h τ18 e_τ18
          obtain ⟨v19, e_v19⟩ : ∃ z : Int32, z = x8 + (1 : Int32) := ⟨_, rfl⟩
          have h := h v19 e_v19
          refine v_iinc (v := v19) dX11_searched_142 rfl (by rw [e_v19]; rfl) (by decide) rfl ?_
          refine v_ls (ls2 := [some (.ref 66), some (.int f1), some (.int f2), some (.int f3), some (.int f4), some (.int f5), some (.int f6), some (.int f7), some (.int v19), some (.int v9)]) rfl ?_
          refine v_goto (tgt := 77) dX11_searched_145 (by decide) ?_
          refine v_none 9 ?_
          refine v_ls (ls2 := [some (.ref 66), some (.int f1), some (.int f2), some (.int f3), some (.int f4), some (.int f5), some (.int f6), some (.int f7), some (.int v19), none]) rfl ?_
          exact ih v19 _ h
      · have h := h.2 c10
        refine v_iload dX11_searched_120 rfl ?_
        refine v_goto (tgt := 141) dX11_searched_122 (by decide) ?_
        obtain ⟨j20, e_j20, l_j20, h⟩ := h
        refine u_iast dX11_searched_141 sh_73 (by decide) (by decide) e_j20 l_j20 (fun τ21 e_τ21 => ?_)
        have h := h τ21 e_τ21
        obtain ⟨v22, e_v22⟩ : ∃ z : Int32, z = x8 + (1 : Int32) := ⟨_, rfl⟩
        have h := h v22 e_v22
        refine v_iinc (v := v22) dX11_searched_142 rfl (by rw [e_v22]; rfl) (by decide) rfl ?_
        refine v_ls (ls2 := [some (.ref 66), some (.int f1), some (.int f2), some (.int f3), some (.int f4), some (.int f5), some (.int f6), some (.int f7), some (.int v22), some (.int v9)]) rfl ?_
        refine v_goto (tgt := 77) dX11_searched_145 (by decide) ?_
        refine v_none 9 ?_
        refine v_ls (ls2 := [some (.ref 66), some (.int f1), some (.int f2), some (.int f3), some (.int f4), some (.int f5), some (.int f6), some (.int f7), some (.int v22), none]) rfl ?_
        exact ih v22 _ h
set_option maxRecDepth 100000 in
set_option maxHeartbeats 4000000 in
theorem l_X11_searched_151 {d : Nat}  (f1 : Int32) (f2 : Int32) (f3 : Int32) (f4 : Int32) (f5 : Int32) (f6 : Int32) (f7 : Int32) {K : Int32 → kT → Prop} {post : Int32 → kT → Prop} (hK : ∀ (x8 : Int32) (τ : kT), K x8 τ → U yX11_searched cX11_searched 10 (some .int) (d + 5) kE0 199 [some (.ref 66), some (.int f1), some (.int f2), some (.int f3), some (.int f4), some (.int f5), some (.int f6), some (.int f7), some (.int x8), none] [] τ (k_pi post)) : ∀ (n : Nat) (x8 : Int32) (τ : kT), L_X11_searched_151  f1 f2 f3 f4 f5 f6 f7 K post n x8 τ → U yX11_searched cX11_searched 10 (some .int) (d + 5) kE0 151 [some (.ref 66), some (.int f1), some (.int f2), some (.int f3), some (.int f4), some (.int f5), some (.int f6), some (.int f7), some (.int x8), none] [] τ (k_pi post) := by
  intro n
  induction n with
  | zero => intro x8 τ h; exact h.elim
  | succ n ih =>
    intro x8 τ h
    unfold L_X11_searched_151 at h
    refine v_iload dX11_searched_151 rfl ?_
    refine v_iload dX11_searched_153 rfl ?_
    refine v_icmp_ge (tgt := 199) dX11_searched_155 (by decide) (fun c26 => ?_) (fun c26 => ?_)
    · have h := h.1 c26
      exact hK x8 _ h
    · have h := h.2 c26
      refine v_iload dX11_searched_158 rfl ?_
      refine v_iload_n dX11_searched_160 rfl rfl ?_
      refine v_icmp_ne (tgt := 199) dX11_searched_161 (by decide) (fun c27 => ?_) (fun c27 => ?_)
      · have h := h.1 c27
        exact hK x8 _ h
      · have h := h.2 c27
        refine v_aload_n dX11_searched_164 rfl rfl ?_
        refine u_getr fX11_26 dX11_searched_165 sh_66 rfl (by decide) (rf_66_11 _) ?_
        refine v_iconst (v := 5) dX11_searched_168 (by decide) ?_
        refine v_iload dX11_searched_169 rfl ?_
        refine v_imul dX11_searched_171 ?_
        refine v_iload dX11_searched_172 rfl ?_
        refine v_iadd dX11_searched_174 ?_
        refine v_aload_n dX11_searched_175 rfl rfl ?_
        refine u_getr fX11_7 dX11_searched_176 sh_66 rfl (by decide) (rf_66_0 _) ?_
        refine v_sipush (v := 2300) dX11_searched_179 (by decide) ?_
        refine v_bipush (v := 18) dX11_searched_182 (by decide) ?_
        refine v_iload dX11_searched_184 rfl ?_
        refine v_imul dX11_searched_186 ?_
        refine v_iadd dX11_searched_187 ?_
        refine v_iload dX11_searched_188 rfl ?_
        refine v_iadd dX11_searched_190 ?_
        obtain ⟨j28, e_j28, l_j28, h⟩ := h
        refine u_iald dX11_searched_191 sh_67 (by decide) (by decide) e_j28 l_j28 ?_
        obtain ⟨j29, e_j29, l_j29, h⟩ := h
        refine u_iast dX11_searched_192 sh_70 (by decide) (by decide) e_j29 l_j29 (fun τ30 e_τ30 => ?_)
        have h := h τ30 e_τ30
        obtain ⟨v31, e_v31⟩ : ∃ z : Int32, z = x8 + (1 : Int32) := ⟨_, rfl⟩
        have h := h v31 e_v31
        refine v_iinc (v := v31) dX11_searched_193 rfl (by rw [e_v31]; rfl) (by decide) rfl ?_
        refine v_ls (ls2 := [some (.ref 66), some (.int f1), some (.int f2), some (.int f3), some (.int f4), some (.int f5), some (.int f6), some (.int f7), some (.int v31), none]) rfl ?_
        refine v_goto (tgt := 151) dX11_searched_196 (by decide) ?_
        exact ih v31 _ h
set_option maxRecDepth 100000 in
set_option maxHeartbeats 4000000 in
theorem l_X11_searched_41 {d : Nat}  (f1 : Int32) (f2 : Int32) (f3 : Int32) (f4 : Int32) (f5 : Int32) (f6 : Int32) {K : Int32 → kT → Prop} {post : Int32 → kT → Prop} (hK : ∀ (x7 : Int32) (τ : kT), K x7 τ → U yX11_searched cX11_searched 10 (some .int) (d + 5) kE0 205 [some (.ref 66), some (.int f1), some (.int f2), some (.int f3), some (.int f4), some (.int f5), some (.int f6), some (.int x7), none, none] [] τ (k_pi post)) : ∀ (n : Nat) (x7 : Int32) (τ : kT), L_X11_searched_41  f1 f2 f3 f4 f5 f6 K post n x7 τ → U yX11_searched cX11_searched 10 (some .int) (d + 5) kE0 41 [some (.ref 66), some (.int f1), some (.int f2), some (.int f3), some (.int f4), some (.int f5), some (.int f6), some (.int x7), none, none] [] τ (k_pi post) := by
  intro n
  induction n with
  | zero => intro x7 τ h; exact h.elim
  | succ n ih =>
    intro x7 τ h
    unfold L_X11_searched_41 at h
    refine v_iload dX11_searched_41 rfl ?_
    refine v_iload_n dX11_searched_43 rfl rfl ?_
    refine v_icmp_ge (tgt := 205) dX11_searched_44 (by decide) (fun c5 => ?_) (fun c5 => ?_)
    · have h := h.1 c5
      exact hK x7 _ h
    · have h := h.2 c5
      refine v_iload dX11_searched_47 rfl ?_
      refine v_iload_n dX11_searched_49 rfl rfl ?_
      refine v_icmp_eq (tgt := 74) dX11_searched_50 (by decide) (fun c6 => ?_) (fun c6 => ?_)
      · have h := h.1 c6
        refine v_iconst (v := 0) dX11_searched_74 (by decide) ?_
        refine v_istore dX11_searched_75 (by decide) rfl ?_
        refine v_ls (ls2 := [some (.ref 66), some (.int f1), some (.int f2), some (.int f3), some (.int f4), some (.int f5), some (.int f6), some (.int x7), some (.int (0 : Int32)), none]) rfl ?_
        obtain ⟨m23, h⟩ := h
        refine l_X11_searched_77  f1 f2 f3 f4 f5 f6 x7 (fun v24 τ25 h => ?_) m23 (0 : Int32) _ h
        refine v_iconst (v := 0) dX11_searched_148 (by decide) ?_
        refine v_istore dX11_searched_149 (by decide) rfl ?_
        refine v_ls (ls2 := [some (.ref 66), some (.int f1), some (.int f2), some (.int f3), some (.int f4), some (.int f5), some (.int f6), some (.int x7), some (.int (0 : Int32)), none]) rfl ?_
        obtain ⟨m32, h⟩ := h
        refine l_X11_searched_151  f1 f2 f3 f4 f5 f6 x7 (fun v33 τ34 h => ?_) m32 (0 : Int32) _ h
        obtain ⟨v35, e_v35⟩ : ∃ z : Int32, z = x7 + (1 : Int32) := ⟨_, rfl⟩
        have h := h v35 e_v35
        refine v_iinc (v := v35) dX11_searched_199 rfl (by rw [e_v35]; rfl) (by decide) rfl ?_
        refine v_ls (ls2 := [some (.ref 66), some (.int f1), some (.int f2), some (.int f3), some (.int f4), some (.int f5), some (.int f6), some (.int v35), some (.int v33), none]) rfl ?_
        refine v_goto (tgt := 41) dX11_searched_202 (by decide) ?_
        refine v_none 8 ?_
        refine v_ls (ls2 := [some (.ref 66), some (.int f1), some (.int f2), some (.int f3), some (.int f4), some (.int f5), some (.int f6), some (.int v35), none, none]) rfl ?_
        exact ih v35 _ h
      · have h := h.2 c6
        refine v_aload_n dX11_searched_53 rfl rfl ?_
        refine u_getr fX11_32 dX11_searched_54 sh_66 rfl (by decide) (rf_66_13 _) ?_
        refine v_aload_n dX11_searched_57 rfl rfl ?_
        refine u_geti fX11_164 dX11_searched_58 sh_66 rfl (by decide) ?_
        refine v_iload dX11_searched_61 rfl ?_
        obtain ⟨j36, e_j36, l_j36, h⟩ := h
        refine u_iast dX11_searched_63 sh_72 (by decide) (by decide) e_j36 l_j36 (fun τ37 e_τ37 => ?_)
        have h := h τ37 e_τ37
        refine v_aload_n dX11_searched_64 rfl rfl ?_
        refine v_dup dX11_searched_65 rfl ?_
        refine u_geti fX11_164 dX11_searched_66 sh_66 rfl (by decide) ?_
        refine v_iconst (v := 1) dX11_searched_69 (by decide) ?_
        refine v_iadd dX11_searched_70 ?_
        refine u_puti pX11_164 ⟨_, rfl⟩ dX11_searched_71 sh_66 rfl (by decide) (by decide) (fun τ38 e_τ38 => ?_)
        have h := h τ38 e_τ38
        refine v_iconst (v := 0) dX11_searched_74 (by decide) ?_
        refine v_istore dX11_searched_75 (by decide) rfl ?_
        refine v_ls (ls2 := [some (.ref 66), some (.int f1), some (.int f2), some (.int f3), some (.int f4), some (.int f5), some (.int f6), some (.int x7), some (.int (0 : Int32)), none]) rfl ?_
        obtain ⟨m39, h⟩ := h
        refine l_X11_searched_77  f1 f2 f3 f4 f5 f6 x7 (fun v40 τ41 h => ?_) m39 (0 : Int32) _ h
        refine v_iconst (v := 0) dX11_searched_148 (by decide) ?_
        refine v_istore dX11_searched_149 (by decide) rfl ?_
        refine v_ls (ls2 := [some (.ref 66), some (.int f1), some (.int f2), some (.int f3), some (.int f4), some (.int f5), some (.int f6), some (.int x7), some (.int (0 : Int32)), none]) rfl ?_
        obtain ⟨m42, h⟩ := h
        refine l_X11_searched_151  f1 f2 f3 f4 f5 f6 x7 (fun v43 τ44 h => ?_) m42 (0 : Int32) _ h
        obtain ⟨v45, e_v45⟩ : ∃ z : Int32, z = x7 + (1 : Int32) := ⟨_, rfl⟩
        have h := h v45 e_v45
        refine v_iinc (v := v45) dX11_searched_199 rfl (by rw [e_v45]; rfl) (by decide) rfl ?_
        refine v_ls (ls2 := [some (.ref 66), some (.int f1), some (.int f2), some (.int f3), some (.int f4), some (.int f5), some (.int f6), some (.int v45), some (.int v43), none]) rfl ?_
        refine v_goto (tgt := 41) dX11_searched_202 (by decide) ?_
        refine v_none 8 ?_
        refine v_ls (ls2 := [some (.ref 66), some (.int f1), some (.int f2), some (.int f3), some (.int f4), some (.int f5), some (.int f6), some (.int v45), none, none]) rfl ?_
        exact ih v45 _ h
set_option maxRecDepth 100000 in
set_option maxHeartbeats 4000000 in
theorem v_X11_searched {d : Nat}  (a1 : Int32) (a2 : Int32) (a3 : Int32) (a4 : Int32) (a5 : Int32) (τ : kT) (post : Int32 → kT → Prop) (h : T_X11_searched  a1 a2 a3 a4 a5 τ post) : U yX11_searched cX11_searched 10 (some .int) (d + 5) kE0 0 [some (.ref 66), some (.int a1), some (.int a2), some (.int a3), some (.int a4), some (.int a5), none, none, none, none] [] τ (k_pi post) := by
  unfold T_X11_searched at h
  refine v_aload_n dX11_searched_0 rfl rfl ?_
  refine v_iload_n dX11_searched_1 rfl rfl ?_
  refine v_iload dX11_searched_2 rfl ?_
  refine u_callV [.int a3, .int a4] mX11_against iX11_against lX11_161 dX11_searched_4 sh_66 rfl rfl (by decide) ⟨rfl, rfl, id⟩ rfl rfl (Nat.le_of_ble_eq_true rfl) (Nat.le_of_ble_eq_true rfl) (v_X11_against a3 a4 _ _ h) ?_
  rintro _ τ2 ⟨r1, rfl, h⟩
  refine v_istore dX11_searched_7 (by decide) rfl ?_
  refine v_ls (ls2 := [some (.ref 66), some (.int a1), some (.int a2), some (.int a3), some (.int a4), some (.int a5), some (.int r1), none, none, none]) rfl ?_
  refine v_iload dX11_searched_9 rfl ?_
  refine v_if_eq (tgt := 33) dX11_searched_11 (by decide) (fun c3 => ?_) (fun c3 => ?_)
  · have h := h.1 c3
    refine v_aload_n dX11_searched_33 rfl rfl ?_
    refine v_iconst (v := 0) dX11_searched_34 (by decide) ?_
    refine u_puti pX11_164 ⟨_, rfl⟩ dX11_searched_35 sh_66 rfl (by decide) (by decide) (fun τ4 e_τ4 => ?_)
    have h := h τ4 e_τ4
    refine v_iconst (v := 0) dX11_searched_38 (by decide) ?_
    refine v_istore dX11_searched_39 (by decide) rfl ?_
    refine v_ls (ls2 := [some (.ref 66), some (.int a1), some (.int a2), some (.int a3), some (.int a4), some (.int a5), some (.int r1), some (.int (0 : Int32)), none, none]) rfl ?_
    obtain ⟨m46, h⟩ := h
    refine l_X11_searched_41  a1 a2 a3 a4 a5 r1 (fun v47 τ48 h => ?_) m46 (0 : Int32) _ h
    refine v_aload_n dX11_searched_205 rfl rfl ?_
    refine v_iconst (v := 0) dX11_searched_206 (by decide) ?_
    refine u_puti pX11_170 ⟨_, rfl⟩ dX11_searched_207 sh_66 rfl (by decide) (by decide) (fun τ49 e_τ49 => ?_)
    have h := h τ49 e_τ49
    refine v_aload_n dX11_searched_210 rfl rfl ?_
    refine v_iload_n dX11_searched_211 rfl rfl ?_
    refine v_iload_n dX11_searched_212 rfl rfl ?_
    refine v_iload_n dX11_searched_213 rfl rfl ?_
    refine v_iload dX11_searched_214 rfl ?_
    refine v_iload dX11_searched_216 rfl ?_
    refine u_callV [.int a1, .int a2, .int a3, .int a4, .int a5] mX11_search iX11_search lX11_173 dX11_searched_218 sh_66 rfl rfl (by decide) ⟨rfl, rfl, id⟩ rfl rfl (Nat.le_of_ble_eq_true rfl) (Nat.le_of_ble_eq_true rfl) (v_X11_search a1 a2 a3 a4 a5 _ _ h) ?_
    rintro _ τ51 ⟨r50, rfl, h⟩
    refine v_istore dX11_searched_221 (by decide) rfl ?_
    refine v_ls (ls2 := [some (.ref 66), some (.int a1), some (.int a2), some (.int a3), some (.int a4), some (.int a5), some (.int r1), some (.int r50), none, none]) rfl ?_
    refine v_iload dX11_searched_223 rfl ?_
    refine v_iconst (v := 1) dX11_searched_225 (by decide) ?_
    refine v_icmp_ne (tgt := 240) dX11_searched_226 (by decide) (fun c52 => ?_) (fun c52 => ?_)
    · have h := h.1 c52
      refine v_aload_n dX11_searched_240 rfl rfl ?_
      refine v_iload dX11_searched_241 rfl ?_
      refine u_callV [.int r50] mX11_well iX11_well lX11_74 dX11_searched_243 sh_66 rfl rfl (by decide) ⟨rfl, rfl, id⟩ rfl rfl (Nat.le_of_ble_eq_true rfl) (Nat.le_of_ble_eq_true rfl) (v_X11_well r50 _ _ h) ?_
      rintro _ τ54 ⟨r53, rfl, h⟩
      exact u_iret dX11_searched_246 ⟨rfl, id⟩ h
    · have h := h.2 c52
      refine v_aload_n dX11_searched_229 rfl rfl ?_
      refine u_callV [] mX11_change iX11_change lX11_71 dX11_searched_230 sh_66 rfl rfl (by decide) ⟨rfl, rfl, id⟩ rfl rfl (Nat.le_of_ble_eq_true rfl) (Nat.le_of_ble_eq_true rfl) (v_X11_change  _ _ h) ?_
      rintro _ τ56 ⟨rfl, h⟩
      refine v_aload_n dX11_searched_233 rfl rfl ?_
      refine v_iload_n dX11_searched_234 rfl rfl ?_
      refine v_iload dX11_searched_235 rfl ?_
      refine u_callV [.int a3, .int a4] mX11_take iX11_take lX11_176 dX11_searched_237 sh_66 rfl rfl (by decide) ⟨rfl, rfl, id⟩ rfl rfl (Nat.le_of_ble_eq_true rfl) (Nat.le_of_ble_eq_true rfl) (v_X11_take a3 a4 _ _ h) ?_
      rintro _ τ58 ⟨rfl, h⟩
      refine v_aload_n dX11_searched_240 rfl rfl ?_
      refine v_iload dX11_searched_241 rfl ?_
      refine u_callV [.int r50] mX11_well iX11_well lX11_74 dX11_searched_243 sh_66 rfl rfl (by decide) ⟨rfl, rfl, id⟩ rfl rfl (Nat.le_of_ble_eq_true rfl) (Nat.le_of_ble_eq_true rfl) (v_X11_well r50 _ _ h) ?_
      rintro _ τ60 ⟨r59, rfl, h⟩
      exact u_iret dX11_searched_246 ⟨rfl, id⟩ h
  · have h := h.2 c3
    refine v_iload dX11_searched_14 rfl ?_
    refine v_bipush (v := -3) dX11_searched_16 (by decide) ?_
    refine v_icmp_ne (tgt := 26) dX11_searched_18 (by decide) (fun c61 => ?_) (fun c61 => ?_)
    · have h := h.1 c61
      refine v_aload_n dX11_searched_26 rfl rfl ?_
      refine v_iload dX11_searched_27 rfl ?_
      refine u_callV [.int r1] mX11_met iX11_met lX11_80 dX11_searched_29 sh_66 rfl rfl (by decide) ⟨rfl, rfl, id⟩ rfl rfl (Nat.le_of_ble_eq_true rfl) (Nat.le_of_ble_eq_true rfl) (v_X11_met r1 _ _ h) ?_
      rintro _ τ63 ⟨r62, rfl, h⟩
      exact u_iret dX11_searched_32 ⟨rfl, id⟩ h
    · have h := h.2 c61
      refine v_bipush (v := -3) dX11_searched_21 (by decide) ?_
      refine v_goto (tgt := 32) dX11_searched_23 (by decide) ?_
      exact u_iret dX11_searched_32 ⟨rfl, id⟩ h
def T_X11_work (a1 : Int32) (a2 : Int32) (a3 : Int32) (a4 : Int32) (τ : kT) (post : Int32 → kT → Prop) : Prop := (T_X11_areRight a1 a2 a3 a4 τ (fun r1 τ2 => ((¬ r1 = 0 → (((q_i τ2 67 8523) < a1 → post (-3 : Int32) τ2) ∧ (¬ (q_i τ2 67 8523) < a1 → ((a2 ≤ (q_i τ2 67 8525) → (T_X11_searched (-1 : Int32) a1 a2 a3 a4 τ2 (fun r6 τ7 => post r6 τ7))) ∧ (¬ a2 ≤ (q_i τ2 67 8525) → post (-3 : Int32) τ2))))) ∧ (r1 = 0 → post (-2 : Int32) τ2))))
set_option maxRecDepth 100000 in
set_option maxHeartbeats 4000000 in
theorem v_X11_work {d : Nat}  (a1 : Int32) (a2 : Int32) (a3 : Int32) (a4 : Int32) (τ : kT) (post : Int32 → kT → Prop) (h : T_X11_work  a1 a2 a3 a4 τ post) : U yX11_work cX11_work 5 (some .int) (d + 6) kE0 0 [some (.ref 66), some (.int a1), some (.int a2), some (.int a3), some (.int a4)] [] τ (k_pi post) := by
  unfold T_X11_work at h
  refine v_iload_n dX11_work_0 rfl rfl ?_
  refine v_iload_n dX11_work_1 rfl rfl ?_
  refine v_iload_n dX11_work_2 rfl rfl ?_
  refine v_iload dX11_work_3 rfl ?_
  refine u_callS [.int a1, .int a2, .int a3, .int a4] mX11_areRight sX11_areRight lX11_153 dX11_work_5 ⟨rfl, rfl, id⟩ rfl rfl (Nat.le_of_ble_eq_true rfl) (Nat.le_of_ble_eq_true rfl) (v_X11_areRight a1 a2 a3 a4 _ _ h) ?_
  rintro _ τ2 ⟨r1, rfl, h⟩
  refine v_if_ne (tgt := 14) dX11_work_8 (by decide) (fun c3 => ?_) (fun c3 => ?_)
  · have h := h.1 c3
    refine v_iload_n dX11_work_14 rfl rfl ?_
    refine v_aload_n dX11_work_15 rfl rfl ?_
    refine u_getr fX11_7 dX11_work_16 sh_66 rfl (by decide) (rf_66_0 _) ?_
    refine v_sipush (v := 8523) dX11_work_19 (by decide) ?_
    refine u_iald dX11_work_22 sh_67 (by decide) (by decide) rfl (by decide) ?_
    refine v_icmp_gt (tgt := 38) dX11_work_23 (by decide) (fun c4 => ?_) (fun c4 => ?_)
    · have h := h.1 c4
      refine v_bipush (v := -3) dX11_work_38 (by decide) ?_
      refine v_goto (tgt := 53) dX11_work_40 (by decide) ?_
      exact u_iret dX11_work_53 ⟨rfl, id⟩ h
    · have h := h.2 c4
      refine v_iload_n dX11_work_26 rfl rfl ?_
      refine v_aload_n dX11_work_27 rfl rfl ?_
      refine u_getr fX11_7 dX11_work_28 sh_66 rfl (by decide) (rf_66_0 _) ?_
      refine v_sipush (v := 8525) dX11_work_31 (by decide) ?_
      refine u_iald dX11_work_34 sh_67 (by decide) (by decide) rfl (by decide) ?_
      refine v_icmp_le (tgt := 43) dX11_work_35 (by decide) (fun c5 => ?_) (fun c5 => ?_)
      · have h := h.1 c5
        refine v_aload_n dX11_work_43 rfl rfl ?_
        refine v_iconst (v := -1) dX11_work_44 (by decide) ?_
        refine v_iload_n dX11_work_45 rfl rfl ?_
        refine v_iload_n dX11_work_46 rfl rfl ?_
        refine v_iload_n dX11_work_47 rfl rfl ?_
        refine v_iload dX11_work_48 rfl ?_
        refine u_callV [.int (-1 : Int32), .int a1, .int a2, .int a3, .int a4] mX11_searched iX11_searched lX11_157 dX11_work_50 sh_66 rfl rfl (by decide) ⟨rfl, rfl, id⟩ rfl rfl (Nat.le_of_ble_eq_true rfl) (Nat.le_of_ble_eq_true rfl) (v_X11_searched (-1 : Int32) a1 a2 a3 a4 _ _ h) ?_
        rintro _ τ7 ⟨r6, rfl, h⟩
        exact u_iret dX11_work_53 ⟨rfl, id⟩ h
      · have h := h.2 c5
        refine v_bipush (v := -3) dX11_work_38 (by decide) ?_
        refine v_goto (tgt := 53) dX11_work_40 (by decide) ?_
        exact u_iret dX11_work_53 ⟨rfl, id⟩ h
  · have h := h.2 c3
    refine v_bipush (v := -2) dX11_work_11 (by decide) ?_
    exact u_iret dX11_work_13 ⟨rfl, id⟩ h
def T_X11_anew (a1 : Int32) (a2 : Int32) (a3 : Int32) (a4 : Int32) (a5 : Int32) (τ : kT) (post : Int32 → kT → Prop) : Prop := (T_X11_areRight a2 a3 a4 a5 τ (fun r1 τ2 => ((r1 = 0 → post (-2 : Int32) τ2) ∧ (¬ r1 = 0 → (T_X11_in ((a1).toInt64) (0 : Int64) (((a2 - (1 : Int32))).toInt64) τ2 (fun r4 τ5 => ((¬ r4 = 0 → (((q_i τ5 67 8523) < a2 → post (-3 : Int32) τ5) ∧ (¬ (q_i τ5 67 8523) < a2 → (((q_i τ5 67 8525) < a3 → post (-3 : Int32) τ5) ∧ (¬ (q_i τ5 67 8525) < a3 → (∃ j9 : Nat, ((4100 : Int32) + a1) = nI j9 ∧ j9 < 8530 ∧ ((¬ (q_i τ5 67 j9) = (-6 : Int32) → post (-3 : Int32) τ5) ∧ ((q_i τ5 67 j9) = (-6 : Int32) → (∃ j11 : Nat, ((2200 : Int32) + a1) = nI j11 ∧ j11 < 8530 ∧ (((q_i τ5 67 j11) = a4 → (T_X11_searched a1 a2 a3 a4 a5 τ5 (fun r13 τ14 => post r13 τ14))) ∧ (¬ (q_i τ5 67 j11) = a4 → post (-3 : Int32) τ5))))))))))) ∧ (r4 = 0 → post (-2 : Int32) τ5))))))))
set_option maxRecDepth 100000 in
set_option maxHeartbeats 4000000 in
theorem v_X11_anew {d : Nat}  (a1 : Int32) (a2 : Int32) (a3 : Int32) (a4 : Int32) (a5 : Int32) (τ : kT) (post : Int32 → kT → Prop) (h : T_X11_anew  a1 a2 a3 a4 a5 τ post) : U yX11_anew cX11_anew 6 (some .int) (d + 6) kE0 0 [some (.ref 66), some (.int a1), some (.int a2), some (.int a3), some (.int a4), some (.int a5)] [] τ (k_pi post) := by
  unfold T_X11_anew at h
  refine v_iload_n dX11_anew_0 rfl rfl ?_
  refine v_iload_n dX11_anew_1 rfl rfl ?_
  refine v_iload dX11_anew_2 rfl ?_
  refine v_iload dX11_anew_4 rfl ?_
  refine u_callS [.int a2, .int a3, .int a4, .int a5] mX11_areRight sX11_areRight lX11_153 dX11_anew_6 ⟨rfl, rfl, id⟩ rfl rfl (Nat.le_of_ble_eq_true rfl) (Nat.le_of_ble_eq_true rfl) (v_X11_areRight a2 a3 a4 a5 _ _ h) ?_
  rintro _ τ2 ⟨r1, rfl, h⟩
  refine v_if_eq (tgt := 25) dX11_anew_9 (by decide) (fun c3 => ?_) (fun c3 => ?_)
  · have h := h.1 c3
    refine v_bipush (v := -2) dX11_anew_25 (by decide) ?_
    exact u_iret dX11_anew_27 ⟨rfl, id⟩ h
  · have h := h.2 c3
    refine v_iload_n dX11_anew_12 rfl rfl ?_
    refine v_i2l dX11_anew_13 ?_
    refine v_lconst (v := 0) dX11_anew_14 (by decide) ?_
    refine v_iload_n dX11_anew_15 rfl rfl ?_
    refine v_iconst (v := 1) dX11_anew_16 (by decide) ?_
    refine v_isub dX11_anew_17 ?_
    refine v_i2l dX11_anew_18 ?_
    refine u_callS [.long ((a1).toInt64), .long (0 : Int64), .long (((a2 - (1 : Int32))).toInt64)] mX11_in sX11_in lX11_67 dX11_anew_19 ⟨rfl, rfl, id⟩ rfl rfl (Nat.le_of_ble_eq_true rfl) (Nat.le_of_ble_eq_true rfl) (v_X11_in ((a1).toInt64) (0 : Int64) (((a2 - (1 : Int32))).toInt64) _ _ h) ?_
    rintro _ τ5 ⟨r4, rfl, h⟩
    refine v_if_ne (tgt := 28) dX11_anew_22 (by decide) (fun c6 => ?_) (fun c6 => ?_)
    · have h := h.1 c6
      refine v_iload_n dX11_anew_28 rfl rfl ?_
      refine v_aload_n dX11_anew_29 rfl rfl ?_
      refine u_getr fX11_7 dX11_anew_30 sh_66 rfl (by decide) (rf_66_0 _) ?_
      refine v_sipush (v := 8523) dX11_anew_33 (by decide) ?_
      refine u_iald dX11_anew_36 sh_67 (by decide) (by decide) rfl (by decide) ?_
      refine v_icmp_gt (tgt := 82) dX11_anew_37 (by decide) (fun c7 => ?_) (fun c7 => ?_)
      · have h := h.1 c7
        refine v_bipush (v := -3) dX11_anew_82 (by decide) ?_
        refine v_goto (tgt := 98) dX11_anew_84 (by decide) ?_
        exact u_iret dX11_anew_98 ⟨rfl, id⟩ h
      · have h := h.2 c7
        refine v_iload_n dX11_anew_40 rfl rfl ?_
        refine v_aload_n dX11_anew_41 rfl rfl ?_
        refine u_getr fX11_7 dX11_anew_42 sh_66 rfl (by decide) (rf_66_0 _) ?_
        refine v_sipush (v := 8525) dX11_anew_45 (by decide) ?_
        refine u_iald dX11_anew_48 sh_67 (by decide) (by decide) rfl (by decide) ?_
        refine v_icmp_gt (tgt := 82) dX11_anew_49 (by decide) (fun c8 => ?_) (fun c8 => ?_)
        · have h := h.1 c8
          refine v_bipush (v := -3) dX11_anew_82 (by decide) ?_
          refine v_goto (tgt := 98) dX11_anew_84 (by decide) ?_
          exact u_iret dX11_anew_98 ⟨rfl, id⟩ h
        · have h := h.2 c8
          refine v_aload_n dX11_anew_52 rfl rfl ?_
          refine u_getr fX11_7 dX11_anew_53 sh_66 rfl (by decide) (rf_66_0 _) ?_
          refine v_sipush (v := 4100) dX11_anew_56 (by decide) ?_
          refine v_iload_n dX11_anew_59 rfl rfl ?_
          refine v_iadd dX11_anew_60 ?_
          obtain ⟨j9, e_j9, l_j9, h⟩ := h
          refine u_iald dX11_anew_61 sh_67 (by decide) (by decide) e_j9 l_j9 ?_
          refine v_bipush (v := -6) dX11_anew_62 (by decide) ?_
          refine v_icmp_ne (tgt := 82) dX11_anew_64 (by decide) (fun c10 => ?_) (fun c10 => ?_)
          · have h := h.1 c10
            refine v_bipush (v := -3) dX11_anew_82 (by decide) ?_
            refine v_goto (tgt := 98) dX11_anew_84 (by decide) ?_
            exact u_iret dX11_anew_98 ⟨rfl, id⟩ h
          · have h := h.2 c10
            refine v_aload_n dX11_anew_67 rfl rfl ?_
            refine u_getr fX11_7 dX11_anew_68 sh_66 rfl (by decide) (rf_66_0 _) ?_
            refine v_sipush (v := 2200) dX11_anew_71 (by decide) ?_
            refine v_iload_n dX11_anew_74 rfl rfl ?_
            refine v_iadd dX11_anew_75 ?_
            obtain ⟨j11, e_j11, l_j11, h⟩ := h
            refine u_iald dX11_anew_76 sh_67 (by decide) (by decide) e_j11 l_j11 ?_
            refine v_iload dX11_anew_77 rfl ?_
            refine v_icmp_eq (tgt := 87) dX11_anew_79 (by decide) (fun c12 => ?_) (fun c12 => ?_)
            · have h := h.1 c12
              refine v_aload_n dX11_anew_87 rfl rfl ?_
              refine v_iload_n dX11_anew_88 rfl rfl ?_
              refine v_iload_n dX11_anew_89 rfl rfl ?_
              refine v_iload_n dX11_anew_90 rfl rfl ?_
              refine v_iload dX11_anew_91 rfl ?_
              refine v_iload dX11_anew_93 rfl ?_
              refine u_callV [.int a1, .int a2, .int a3, .int a4, .int a5] mX11_searched iX11_searched lX11_157 dX11_anew_95 sh_66 rfl rfl (by decide) ⟨rfl, rfl, id⟩ rfl rfl (Nat.le_of_ble_eq_true rfl) (Nat.le_of_ble_eq_true rfl) (v_X11_searched a1 a2 a3 a4 a5 _ _ h) ?_
              rintro _ τ14 ⟨r13, rfl, h⟩
              exact u_iret dX11_anew_98 ⟨rfl, id⟩ h
            · have h := h.2 c12
              refine v_bipush (v := -3) dX11_anew_82 (by decide) ?_
              refine v_goto (tgt := 98) dX11_anew_84 (by decide) ?_
              exact u_iret dX11_anew_98 ⟨rfl, id⟩ h
    · have h := h.2 c6
      refine v_bipush (v := -2) dX11_anew_25 (by decide) ?_
      exact u_iret dX11_anew_27 ⟨rfl, id⟩ h
def T_X11_trials  (τ : kT) (post : Int32 → kT → Prop) : Prop := post (q_i τ 66 10) τ
set_option maxRecDepth 100000 in
set_option maxHeartbeats 4000000 in
theorem v_X11_trials {d : Nat}   (τ : kT) (post : Int32 → kT → Prop) (h : T_X11_trials   τ post) : U yX11_trials cX11_trials 1 (some .int) (d + 0) kE0 0 [some (.ref 66)] [] τ (k_pi post) := by
  unfold T_X11_trials at h
  refine v_aload_n dX11_trials_0 rfl rfl ?_
  refine u_geti fX11_170 dX11_trials_1 sh_66 rfl (by decide) ?_
  exact u_iret dX11_trials_4 ⟨rfl, id⟩ h
def L_X11_narrows_93  (f1 : Int32) (f2 : Int32) (K : Int32 → kT → Prop) (post : Int32 → kT → Prop) : Nat → Int32 → kT → Prop
  | 0, _, _ => False
  | n + 1, x3, τ => (∃ j6 : Nat, ((100 : Int32) + f1) = nI j6 ∧ j6 < 8530 ∧ (((q_i τ 67 j6) ≤ x3 → K x3 τ) ∧ (¬ (q_i τ 67 j6) ≤ x3 → (∃ j8 : Nat, (((400 : Int32) + ((18 : Int32) * f1)) + x3) = nI j8 ∧ j8 < 8530 ∧ (∀ v9 : Int32, v9 = (q_i τ 67 j8) → ((v9 = 0 → ((v9 = 0 → (∀ v12 : Int32, v12 = x3 + (1 : Int32) → L_X11_narrows_93 f1 f2 K post n v12 τ)) ∧ (¬ v9 = 0 → (∃ j13 : Nat, x3 = nI j13 ∧ j13 < 18 ∧ (∃ j14 : Nat, x3 = nI j14 ∧ j14 < 18 ∧ (∀ τ15 : kT, τ15 = q_si τ 75 j14 ((q_i τ 75 j13) &&& v9) → (∀ v16 : Int32, v16 = x3 + (1 : Int32) → L_X11_narrows_93 f1 f2 K post n v16 τ15))))))) ∧ (¬ v9 = 0 → ((x3 < f2 → ((v9 = 0 → (∀ v19 : Int32, v19 = x3 + (1 : Int32) → L_X11_narrows_93 f1 f2 K post n v19 τ)) ∧ (¬ v9 = 0 → (∃ j20 : Nat, x3 = nI j20 ∧ j20 < 18 ∧ (∃ j21 : Nat, x3 = nI j21 ∧ j21 < 18 ∧ (∀ τ22 : kT, τ22 = q_si τ 75 j21 ((q_i τ 75 j20) &&& v9) → (∀ v23 : Int32, v23 = x3 + (1 : Int32) → L_X11_narrows_93 f1 f2 K post n v23 τ22))))))) ∧ (¬ x3 < f2 → (∀ τ24 : kT, τ24 = q_si τ 66 20 (1 : Int32) → (∀ v25 : Int32, v25 = x3 + (1 : Int32) → L_X11_narrows_93 f1 f2 K post n v25 τ24)))))))))))
def T_X11_narrows : Nat → Int32 → Int32 → kT → (Int32 → kT → Prop) → Prop
  | 0, _, _, _, _ => False
  | n0 + 1, a1, a2, τ, post => ((¬ a1 = (-1 : Int32) → (∃ j2 : Nat, ((0 : Int32) + a1) = nI j2 ∧ j2 < 8530 ∧ ((¬ (q_i τ 67 j2) = (4 : Int32) → ((¬ (q_i τ 66 20) = 0 → (∀ τ5 : kT, τ5 = q_si τ 66 20 (1 : Int32) → (∃ m26 : Nat, L_X11_narrows_93  a1 a2 (fun v27 τ28 => (∃ j29 : Nat, ((100 : Int32) + a1) = nI j29 ∧ j29 < 8530 ∧ (((q_i τ28 67 j29) < 0 → post (0 : Int32) τ28) ∧ (¬ (q_i τ28 67 j29) < 0 → post (1 : Int32) τ28)))) post m26 (0 : Int32) τ5))) ∧ ((q_i τ 66 20) = 0 → (∃ j31 : Nat, ((0 : Int32) + a1) = nI j31 ∧ j31 < 8530 ∧ ((¬ (q_i τ 67 j31) = (3 : Int32) → (∀ τ33 : kT, τ33 = q_si τ 66 20 (0 : Int32) → (∃ m34 : Nat, L_X11_narrows_93  a1 a2 (fun v35 τ36 => (∃ j37 : Nat, ((100 : Int32) + a1) = nI j37 ∧ j37 < 8530 ∧ (((q_i τ36 67 j37) < 0 → post (0 : Int32) τ36) ∧ (¬ (q_i τ36 67 j37) < 0 → post (1 : Int32) τ36)))) post m34 (0 : Int32) τ33))) ∧ ((q_i τ 67 j31) = (3 : Int32) → (∀ τ39 : kT, τ39 = q_si τ 66 20 (1 : Int32) → (∃ m40 : Nat, L_X11_narrows_93  a1 a2 (fun v41 τ42 => (∃ j43 : Nat, ((100 : Int32) + a1) = nI j43 ∧ j43 < 8530 ∧ (((q_i τ42 67 j43) < 0 → post (0 : Int32) τ42) ∧ (¬ (q_i τ42 67 j43) < 0 → post (1 : Int32) τ42)))) post m40 (0 : Int32) τ39)))))))) ∧ ((q_i τ 67 j2) = (4 : Int32) → (∃ j45 : Nat, ((200 : Int32) + a1) = nI j45 ∧ j45 < 8530 ∧ ((T_X11_narrows n0) (q_i τ 67 j45) a2 τ (fun r46 τ47 => ((r46 = 0 → post (0 : Int32) τ47) ∧ (¬ r46 = 0 → (∃ j49 : Nat, ((300 : Int32) + a1) = nI j49 ∧ j49 < 8530 ∧ ((T_X11_narrows n0) (q_i τ47 67 j49) a2 τ47 (fun r50 τ51 => ((r50 = 0 → post (0 : Int32) τ51) ∧ (¬ r50 = 0 → post (1 : Int32) τ51)))))))))))))) ∧ (a1 = (-1 : Int32) → post (0 : Int32) τ))
set_option maxRecDepth 100000 in
set_option maxHeartbeats 4000000 in
theorem l_X11_narrows_93 {d : Nat}  (f1 : Int32) (f2 : Int32) {K : Int32 → kT → Prop} {post : Int32 → kT → Prop} (hK : ∀ (x3 : Int32) (τ : kT), K x3 τ → U yX11_narrows cX11_narrows 5 (some .boolean) (d + 1) kE0 163 [some (.ref 66), some (.int f1), some (.int f2), some (.int x3), none] [] τ (k_pi post)) : ∀ (n : Nat) (x3 : Int32) (τ : kT), L_X11_narrows_93  f1 f2 K post n x3 τ → U yX11_narrows cX11_narrows 5 (some .boolean) (d + 1) kE0 93 [some (.ref 66), some (.int f1), some (.int f2), some (.int x3), none] [] τ (k_pi post) := by
  intro n
  induction n with
  | zero => intro x3 τ h; exact h.elim
  | succ n ih =>
    intro x3 τ h
    unfold L_X11_narrows_93 at h
    refine v_iload_n dX11_narrows_93 rfl rfl ?_
    refine v_aload_n dX11_narrows_94 rfl rfl ?_
    refine u_getr fX11_7 dX11_narrows_95 sh_66 rfl (by decide) (rf_66_0 _) ?_
    refine v_bipush (v := 100) dX11_narrows_98 (by decide) ?_
    refine v_iload_n dX11_narrows_100 rfl rfl ?_
    refine v_iadd dX11_narrows_101 ?_
    obtain ⟨j6, e_j6, l_j6, h⟩ := h
    refine u_iald dX11_narrows_102 sh_67 (by decide) (by decide) e_j6 l_j6 ?_
    refine v_icmp_ge (tgt := 163) dX11_narrows_103 (by decide) (fun c7 => ?_) (fun c7 => ?_)
    · have h := h.1 c7
      exact hK x3 _ h
    · have h := h.2 c7
      refine v_aload_n dX11_narrows_106 rfl rfl ?_
      refine u_getr fX11_7 dX11_narrows_107 sh_66 rfl (by decide) (rf_66_0 _) ?_
      refine v_sipush (v := 400) dX11_narrows_110 (by decide) ?_
      refine v_bipush (v := 18) dX11_narrows_113 (by decide) ?_
      refine v_iload_n dX11_narrows_115 rfl rfl ?_
      refine v_imul dX11_narrows_116 ?_
      refine v_iadd dX11_narrows_117 ?_
      refine v_iload_n dX11_narrows_118 rfl rfl ?_
      refine v_iadd dX11_narrows_119 ?_
      obtain ⟨j8, e_j8, l_j8, h⟩ := h
      refine u_iald dX11_narrows_120 sh_67 (by decide) (by decide) e_j8 l_j8 ?_
      refine v_topi (fun v9 e_v9 => ?_)
      have h := h v9 e_v9
      refine v_istore dX11_narrows_121 (by decide) rfl ?_
      refine v_ls (ls2 := [some (.ref 66), some (.int f1), some (.int f2), some (.int x3), some (.int v9)]) rfl ?_
      refine v_iload dX11_narrows_123 rfl ?_
      refine v_if_eq (tgt := 141) dX11_narrows_125 (by decide) (fun c10 => ?_) (fun c10 => ?_)
      · have h := h.1 c10
        refine v_iload dX11_narrows_141 rfl ?_
        refine v_if_eq (tgt := 157) dX11_narrows_143 (by decide) (fun c11 => ?_) (fun c11 => ?_)
        · have h := h.1 c11
          obtain ⟨v12, e_v12⟩ : ∃ z : Int32, z = x3 + (1 : Int32) := ⟨_, rfl⟩
          have h := h v12 e_v12
          refine v_iinc (v := v12) dX11_narrows_157 rfl (by rw [e_v12]; rfl) (by decide) rfl ?_
          refine v_ls (ls2 := [some (.ref 66), some (.int f1), some (.int f2), some (.int v12), some (.int v9)]) rfl ?_
          refine v_goto (tgt := 93) dX11_narrows_160 (by decide) ?_
          refine v_none 4 ?_
          refine v_ls (ls2 := [some (.ref 66), some (.int f1), some (.int f2), some (.int v12), none]) rfl ?_
          exact ih v12 _ h
        · have h := h.2 c11
          refine v_aload_n dX11_narrows_146 rfl rfl ?_
          refine u_getr fX11_41 dX11_narrows_147 sh_66 rfl (by decide) (rf_66_17 _) ?_
          refine v_iload_n dX11_narrows_150 rfl rfl ?_
          refine v_dup2 dX11_narrows_151 rfl rfl ?_
          obtain ⟨j13, e_j13, l_j13, h⟩ := h
          refine u_iald dX11_narrows_152 sh_75 (by decide) (by decide) e_j13 l_j13 ?_
          refine v_iload dX11_narrows_153 rfl ?_
          refine v_iand dX11_narrows_155 ?_
          obtain ⟨j14, e_j14, l_j14, h⟩ := h
          refine u_iast dX11_narrows_156 sh_75 (by decide) (by decide) e_j14 l_j14 (fun τ15 e_τ15 => ?_)
          have h := h τ15 e_τ15
          obtain ⟨v16, e_v16⟩ : ∃ z : Int32, z = x3 + (1 : Int32) := ⟨_, rfl⟩
          have h := h v16 e_v16
          refine v_iinc (v := v16) dX11_narrows_157 rfl (by rw [e_v16]; rfl) (by decide) rfl ?_
          refine v_ls (ls2 := [some (.ref 66), some (.int f1), some (.int f2), some (.int v16), some (.int v9)]) rfl ?_
          refine v_goto (tgt := 93) dX11_narrows_160 (by decide) ?_
          refine v_none 4 ?_
          refine v_ls (ls2 := [some (.ref 66), some (.int f1), some (.int f2), some (.int v16), none]) rfl ?_
          exact ih v16 _ h
      · have h := h.2 c10
        refine v_iload_n dX11_narrows_128 rfl rfl ?_
        refine v_iload_n dX11_narrows_129 rfl rfl ?_
        refine v_icmp_lt (tgt := 141) dX11_narrows_130 (by decide) (fun c17 => ?_) (fun c17 => ?_)
        · have h := h.1 c17
          refine v_iload dX11_narrows_141 rfl ?_
          refine v_if_eq (tgt := 157) dX11_narrows_143 (by decide) (fun c18 => ?_) (fun c18 => ?_)
          · have h := h.1 c18
            obtain ⟨v19, e_v19⟩ : ∃ z : Int32, z = x3 + (1 : Int32) := ⟨_, rfl⟩
            have h := h v19 e_v19
            refine v_iinc (v := v19) dX11_narrows_157 rfl (by rw [e_v19]; rfl) (by decide) rfl ?_
            refine v_ls (ls2 := [some (.ref 66), some (.int f1), some (.int f2), some (.int v19), some (.int v9)]) rfl ?_
            refine v_goto (tgt := 93) dX11_narrows_160 (by decide) ?_
            refine v_none 4 ?_
            refine v_ls (ls2 := [some (.ref 66), some (.int f1), some (.int f2), some (.int v19), none]) rfl ?_
            exact ih v19 _ h
          · have h := h.2 c18
            refine v_aload_n dX11_narrows_146 rfl rfl ?_
            refine u_getr fX11_41 dX11_narrows_147 sh_66 rfl (by decide) (rf_66_17 _) ?_
            refine v_iload_n dX11_narrows_150 rfl rfl ?_
            refine v_dup2 dX11_narrows_151 rfl rfl ?_
            obtain ⟨j20, e_j20, l_j20, h⟩ := h
            refine u_iald dX11_narrows_152 sh_75 (by decide) (by decide) e_j20 l_j20 ?_
            refine v_iload dX11_narrows_153 rfl ?_
            refine v_iand dX11_narrows_155 ?_
            obtain ⟨j21, e_j21, l_j21, h⟩ := h
            refine u_iast dX11_narrows_156 sh_75 (by decide) (by decide) e_j21 l_j21 (fun τ22 e_τ22 => ?_)
            have h := h τ22 e_τ22
            obtain ⟨v23, e_v23⟩ : ∃ z : Int32, z = x3 + (1 : Int32) := ⟨_, rfl⟩
            have h := h v23 e_v23
            refine v_iinc (v := v23) dX11_narrows_157 rfl (by rw [e_v23]; rfl) (by decide) rfl ?_
            refine v_ls (ls2 := [some (.ref 66), some (.int f1), some (.int f2), some (.int v23), some (.int v9)]) rfl ?_
            refine v_goto (tgt := 93) dX11_narrows_160 (by decide) ?_
            refine v_none 4 ?_
            refine v_ls (ls2 := [some (.ref 66), some (.int f1), some (.int f2), some (.int v23), none]) rfl ?_
            exact ih v23 _ h
        · have h := h.2 c17
          refine v_aload_n dX11_narrows_133 rfl rfl ?_
          refine v_iconst (v := 1) dX11_narrows_134 (by decide) ?_
          refine u_puti pX11_201 (by first | exact Or.inl rfl | exact Or.inr rfl) dX11_narrows_135 sh_66 rfl (by decide) (by decide) (fun τ24 e_τ24 => ?_)
          have h := h τ24 e_τ24
          refine v_goto (tgt := 157) dX11_narrows_138 (by decide) ?_
          obtain ⟨v25, e_v25⟩ : ∃ z : Int32, z = x3 + (1 : Int32) := ⟨_, rfl⟩
          have h := h v25 e_v25
          refine v_iinc (v := v25) dX11_narrows_157 rfl (by rw [e_v25]; rfl) (by decide) rfl ?_
          refine v_ls (ls2 := [some (.ref 66), some (.int f1), some (.int f2), some (.int v25), some (.int v9)]) rfl ?_
          refine v_goto (tgt := 93) dX11_narrows_160 (by decide) ?_
          refine v_none 4 ?_
          refine v_ls (ls2 := [some (.ref 66), some (.int f1), some (.int f2), some (.int v25), none]) rfl ?_
          exact ih v25 _ h
set_option maxRecDepth 100000 in
set_option maxHeartbeats 4000000 in
theorem v_X11_narrows {d : Nat} : ∀ (n : Nat) (a1 : Int32) (a2 : Int32) (τ : kT) (post : Int32 → kT → Prop), T_X11_narrows n a1 a2 τ post → U yX11_narrows cX11_narrows 5 (some .boolean) (d + n + 0) kE0 0 [some (.ref 66), some (.int a1), some (.int a2), none, none] [] τ (k_pi post) := by
  intro n
  induction n with
  | zero => intro a1 a2 τ post h; exact h.elim
  | succ n0 ihR =>
    intro a1 a2 τ post h
    unfold T_X11_narrows at h
    rw [show d + (n0 + 1) + 0 = d + n0 + 1 by omega]
    refine v_iload_n dX11_narrows_0 rfl rfl ?_
    refine v_iconst (v := -1) dX11_narrows_1 (by decide) ?_
    refine v_icmp_ne (tgt := 7) dX11_narrows_2 (by decide) (fun c1 => ?_) (fun c1 => ?_)
    · have h := h.1 c1
      refine v_aload_n dX11_narrows_7 rfl rfl ?_
      refine u_getr fX11_7 dX11_narrows_8 sh_66 rfl (by decide) (rf_66_0 _) ?_
      refine v_iconst (v := 0) dX11_narrows_11 (by decide) ?_
      refine v_iload_n dX11_narrows_12 rfl rfl ?_
      refine v_iadd dX11_narrows_13 ?_
      obtain ⟨j2, e_j2, l_j2, h⟩ := h
      refine u_iald dX11_narrows_14 sh_67 (by decide) (by decide) e_j2 l_j2 ?_
      refine v_iconst (v := 4) dX11_narrows_15 (by decide) ?_
      refine v_icmp_ne (tgt := 63) dX11_narrows_16 (by decide) (fun c3 => ?_) (fun c3 => ?_)
      · have h := h.1 c3
        refine v_aload_n dX11_narrows_63 rfl rfl ?_
        refine v_aload_n dX11_narrows_64 rfl rfl ?_
        refine u_geti fX11_201 dX11_narrows_65 sh_66 rfl (by decide) ?_
        refine v_if_ne (tgt := 83) dX11_narrows_68 (by decide) (fun c4 => ?_) (fun c4 => ?_)
        · have h := h.1 c4
          refine v_iconst (v := 1) dX11_narrows_83 (by decide) ?_
          refine v_goto (tgt := 88) dX11_narrows_84 (by decide) ?_
          refine u_puti pX11_201 (by first | exact Or.inl rfl | exact Or.inr rfl) dX11_narrows_88 sh_66 rfl (by decide) (by decide) (fun τ5 e_τ5 => ?_)
          have h := h τ5 e_τ5
          refine v_iconst (v := 0) dX11_narrows_91 (by decide) ?_
          refine v_istore_n dX11_narrows_92 rfl (by decide) rfl ?_
          refine v_ls (ls2 := [some (.ref 66), some (.int a1), some (.int a2), some (.int (0 : Int32)), none]) rfl ?_
          obtain ⟨m26, h⟩ := h
          refine l_X11_narrows_93  a1 a2 (fun v27 τ28 h => ?_) m26 (0 : Int32) _ h
          refine v_aload_n dX11_narrows_163 rfl rfl ?_
          refine u_getr fX11_7 dX11_narrows_164 sh_66 rfl (by decide) (rf_66_0 _) ?_
          refine v_bipush (v := 100) dX11_narrows_167 (by decide) ?_
          refine v_iload_n dX11_narrows_169 rfl rfl ?_
          refine v_iadd dX11_narrows_170 ?_
          obtain ⟨j29, e_j29, l_j29, h⟩ := h
          refine u_iald dX11_narrows_171 sh_67 (by decide) (by decide) e_j29 l_j29 ?_
          refine v_if_lt (tgt := 179) dX11_narrows_172 (by decide) (fun c30 => ?_) (fun c30 => ?_)
          · have h := h.1 c30
            refine v_iconst (v := 0) dX11_narrows_179 (by decide) ?_
            exact u_zret dX11_narrows_180 rfl ⟨rfl, id⟩ h
          · have h := h.2 c30
            refine v_iconst (v := 1) dX11_narrows_175 (by decide) ?_
            refine v_goto (tgt := 180) dX11_narrows_176 (by decide) ?_
            exact u_zret dX11_narrows_180 rfl ⟨rfl, id⟩ h
        · have h := h.2 c4
          refine v_aload_n dX11_narrows_71 rfl rfl ?_
          refine u_getr fX11_7 dX11_narrows_72 sh_66 rfl (by decide) (rf_66_0 _) ?_
          refine v_iconst (v := 0) dX11_narrows_75 (by decide) ?_
          refine v_iload_n dX11_narrows_76 rfl rfl ?_
          refine v_iadd dX11_narrows_77 ?_
          obtain ⟨j31, e_j31, l_j31, h⟩ := h
          refine u_iald dX11_narrows_78 sh_67 (by decide) (by decide) e_j31 l_j31 ?_
          refine v_iconst (v := 3) dX11_narrows_79 (by decide) ?_
          refine v_icmp_ne (tgt := 87) dX11_narrows_80 (by decide) (fun c32 => ?_) (fun c32 => ?_)
          · have h := h.1 c32
            refine v_iconst (v := 0) dX11_narrows_87 (by decide) ?_
            refine u_puti pX11_201 (by first | exact Or.inl rfl | exact Or.inr rfl) dX11_narrows_88 sh_66 rfl (by decide) (by decide) (fun τ33 e_τ33 => ?_)
            have h := h τ33 e_τ33
            refine v_iconst (v := 0) dX11_narrows_91 (by decide) ?_
            refine v_istore_n dX11_narrows_92 rfl (by decide) rfl ?_
            refine v_ls (ls2 := [some (.ref 66), some (.int a1), some (.int a2), some (.int (0 : Int32)), none]) rfl ?_
            obtain ⟨m34, h⟩ := h
            refine l_X11_narrows_93  a1 a2 (fun v35 τ36 h => ?_) m34 (0 : Int32) _ h
            refine v_aload_n dX11_narrows_163 rfl rfl ?_
            refine u_getr fX11_7 dX11_narrows_164 sh_66 rfl (by decide) (rf_66_0 _) ?_
            refine v_bipush (v := 100) dX11_narrows_167 (by decide) ?_
            refine v_iload_n dX11_narrows_169 rfl rfl ?_
            refine v_iadd dX11_narrows_170 ?_
            obtain ⟨j37, e_j37, l_j37, h⟩ := h
            refine u_iald dX11_narrows_171 sh_67 (by decide) (by decide) e_j37 l_j37 ?_
            refine v_if_lt (tgt := 179) dX11_narrows_172 (by decide) (fun c38 => ?_) (fun c38 => ?_)
            · have h := h.1 c38
              refine v_iconst (v := 0) dX11_narrows_179 (by decide) ?_
              exact u_zret dX11_narrows_180 rfl ⟨rfl, id⟩ h
            · have h := h.2 c38
              refine v_iconst (v := 1) dX11_narrows_175 (by decide) ?_
              refine v_goto (tgt := 180) dX11_narrows_176 (by decide) ?_
              exact u_zret dX11_narrows_180 rfl ⟨rfl, id⟩ h
          · have h := h.2 c32
            refine v_iconst (v := 1) dX11_narrows_83 (by decide) ?_
            refine v_goto (tgt := 88) dX11_narrows_84 (by decide) ?_
            refine u_puti pX11_201 (by first | exact Or.inl rfl | exact Or.inr rfl) dX11_narrows_88 sh_66 rfl (by decide) (by decide) (fun τ39 e_τ39 => ?_)
            have h := h τ39 e_τ39
            refine v_iconst (v := 0) dX11_narrows_91 (by decide) ?_
            refine v_istore_n dX11_narrows_92 rfl (by decide) rfl ?_
            refine v_ls (ls2 := [some (.ref 66), some (.int a1), some (.int a2), some (.int (0 : Int32)), none]) rfl ?_
            obtain ⟨m40, h⟩ := h
            refine l_X11_narrows_93  a1 a2 (fun v41 τ42 h => ?_) m40 (0 : Int32) _ h
            refine v_aload_n dX11_narrows_163 rfl rfl ?_
            refine u_getr fX11_7 dX11_narrows_164 sh_66 rfl (by decide) (rf_66_0 _) ?_
            refine v_bipush (v := 100) dX11_narrows_167 (by decide) ?_
            refine v_iload_n dX11_narrows_169 rfl rfl ?_
            refine v_iadd dX11_narrows_170 ?_
            obtain ⟨j43, e_j43, l_j43, h⟩ := h
            refine u_iald dX11_narrows_171 sh_67 (by decide) (by decide) e_j43 l_j43 ?_
            refine v_if_lt (tgt := 179) dX11_narrows_172 (by decide) (fun c44 => ?_) (fun c44 => ?_)
            · have h := h.1 c44
              refine v_iconst (v := 0) dX11_narrows_179 (by decide) ?_
              exact u_zret dX11_narrows_180 rfl ⟨rfl, id⟩ h
            · have h := h.2 c44
              refine v_iconst (v := 1) dX11_narrows_175 (by decide) ?_
              refine v_goto (tgt := 180) dX11_narrows_176 (by decide) ?_
              exact u_zret dX11_narrows_180 rfl ⟨rfl, id⟩ h
      · have h := h.2 c3
        refine v_aload_n dX11_narrows_19 rfl rfl ?_
        refine v_aload_n dX11_narrows_20 rfl rfl ?_
        refine u_getr fX11_7 dX11_narrows_21 sh_66 rfl (by decide) (rf_66_0 _) ?_
        refine v_sipush (v := 200) dX11_narrows_24 (by decide) ?_
        refine v_iload_n dX11_narrows_27 rfl rfl ?_
        refine v_iadd dX11_narrows_28 ?_
        obtain ⟨j45, e_j45, l_j45, h⟩ := h
        refine u_iald dX11_narrows_29 sh_67 (by decide) (by decide) e_j45 l_j45 ?_
        refine v_iload_n dX11_narrows_30 rfl rfl ?_
        refine u_callV [.int (q_i τ 67 j45), .int a2] mX11_narrows iX11_narrows lX11_198 dX11_narrows_31 sh_66 rfl rfl (by decide) ⟨rfl, rfl, id⟩ rfl rfl (Nat.le_of_ble_eq_true rfl) (Nat.le_of_ble_eq_true rfl) (ihR (q_i τ 67 j45) a2 _ _ h) ?_
        rintro _ τ47 ⟨r46, rfl, h⟩
        refine v_istore_n dX11_narrows_34 rfl (by decide) rfl ?_
        refine v_ls (ls2 := [some (.ref 66), some (.int a1), some (.int a2), some (.int r46), none]) rfl ?_
        refine v_iload_n dX11_narrows_35 rfl rfl ?_
        refine v_if_eq (tgt := 61) dX11_narrows_36 (by decide) (fun c48 => ?_) (fun c48 => ?_)
        · have h := h.1 c48
          refine v_iconst (v := 0) dX11_narrows_61 (by decide) ?_
          exact u_zret dX11_narrows_62 rfl ⟨rfl, id⟩ h
        · have h := h.2 c48
          refine v_aload_n dX11_narrows_39 rfl rfl ?_
          refine v_aload_n dX11_narrows_40 rfl rfl ?_
          refine u_getr fX11_7 dX11_narrows_41 sh_66 rfl (by decide) (rf_66_0 _) ?_
          refine v_sipush (v := 300) dX11_narrows_44 (by decide) ?_
          refine v_iload_n dX11_narrows_47 rfl rfl ?_
          refine v_iadd dX11_narrows_48 ?_
          obtain ⟨j49, e_j49, l_j49, h⟩ := h
          refine u_iald dX11_narrows_49 sh_67 (by decide) (by decide) e_j49 l_j49 ?_
          refine v_iload_n dX11_narrows_50 rfl rfl ?_
          refine u_callV [.int (q_i τ47 67 j49), .int a2] mX11_narrows iX11_narrows lX11_198 dX11_narrows_51 sh_66 rfl rfl (by decide) ⟨rfl, rfl, id⟩ rfl rfl (Nat.le_of_ble_eq_true rfl) (Nat.le_of_ble_eq_true rfl) (ihR (q_i τ47 67 j49) a2 _ _ h) ?_
          rintro _ τ51 ⟨r50, rfl, h⟩
          refine v_if_eq (tgt := 61) dX11_narrows_54 (by decide) (fun c52 => ?_) (fun c52 => ?_)
          · have h := h.1 c52
            refine v_iconst (v := 0) dX11_narrows_61 (by decide) ?_
            exact u_zret dX11_narrows_62 rfl ⟨rfl, id⟩ h
          · have h := h.2 c52
            refine v_iconst (v := 1) dX11_narrows_57 (by decide) ?_
            refine v_goto (tgt := 62) dX11_narrows_58 (by decide) ?_
            exact u_zret dX11_narrows_62 rfl ⟨rfl, id⟩ h
    · have h := h.2 c1
      refine v_iconst (v := 0) dX11_narrows_5 (by decide) ?_
      exact u_zret dX11_narrows_6 rfl ⟨rfl, id⟩ h
theorem v_X11_narrows_N {d : Nat} (a1 : Int32) (a2 : Int32) (τ : kT) (post : Int32 → kT → Prop) (h : T_X11_narrows 2 a1 a2 τ post) : U yX11_narrows cX11_narrows 5 (some .boolean) (d + 2) kE0 0 [some (.ref 66), some (.int a1), some (.int a2), none, none] [] τ (k_pi post) := by
  have h9 := v_X11_narrows (d := d) 2 a1 a2 τ post h
  rw [show d + 2 + 0 = d + 2 by omega] at h9
  exact h9
def L_X11_count_39  (f1 : Int32) (f2 : Int32) (f3 : Int32) (K : Int32 → kT → Prop) (post : Int64 → kT → Prop) : Nat → Int32 → kT → Prop
  | 0, _, _ => False
  | n + 1, x4, τ => (((18 : Int32) ≤ x4 → K x4 τ) ∧ (¬ (18 : Int32) ≤ x4 → (∃ j11 : Nat, x4 = nI j11 ∧ j11 < 18 ∧ (∀ τ12 : kT, τ12 = q_si τ 75 j11 (1023 : Int32) → (∀ v13 : Int32, v13 = x4 + (1 : Int32) → L_X11_count_39 f1 f2 f3 K post n v13 τ12)))))
def L_X11_count_124  (f1 : Int32) (f2 : Int32) (f3 : Int32) (K : Int32 → kT → Prop) (post : Int64 → kT → Prop) : Nat → Int32 → kT → Prop
  | 0, _, _ => False
  | n + 1, x4, τ => (((10 : Int32) ≤ x4 → K x4 τ) ∧ (¬ (10 : Int32) ≤ x4 → (∃ j27 : Nat, x4 = nI j27 ∧ j27 < 10 ∧ (∀ τ28 : kT, τ28 = q_sl τ 76 j27 (((((q_i τ 75 0) >>> (x4 &&& 31)) &&& (1 : Int32))).toInt64) → (∀ v29 : Int32, v29 = x4 + (1 : Int32) → L_X11_count_124 f1 f2 f3 K post n v29 τ28)))))
def L_X11_count_186  (f1 : Int32) (f2 : Int32) (f3 : Int32) (f4 : Int32) (f5 : Int32) (K : Int32 → kT → Prop) (post : Int64 → kT → Prop) : Nat → Int32 → kT → Prop
  | 0, _, _ => False
  | n + 1, x6, τ => (((10 : Int32) ≤ x6 → K x6 τ) ∧ (¬ (10 : Int32) ≤ x6 → (∃ j38 : Nat, f5 = nI j38 ∧ j38 < 10 ∧ (T_X11_in (((f5 - x6)).toInt64) (((-f3)).toInt64) ((f3).toInt64) τ (fun r39 τ40 => ((r39 = 0 → (∃ j42 : Nat, f5 = nI j42 ∧ j42 < 10 ∧ (∀ τ43 : kT, τ43 = q_sl τ40 77 j42 ((q_l τ 77 j38) + (0 : Int64)) → (∀ v44 : Int32, v44 = x6 + (1 : Int32) → L_X11_count_186 f1 f2 f3 f4 f5 K post n v44 τ43)))) ∧ (¬ r39 = 0 → (∃ j45 : Nat, f4 = nI j45 ∧ j45 < 18 ∧ ((¬ (((q_i τ40 75 j45) >>> (f5 &&& 31)) &&& (1 : Int32)) = (1 : Int32) → (∃ j47 : Nat, f5 = nI j47 ∧ j47 < 10 ∧ (∀ τ48 : kT, τ48 = q_sl τ40 77 j47 ((q_l τ 77 j38) + (0 : Int64)) → (∀ v49 : Int32, v49 = x6 + (1 : Int32) → L_X11_count_186 f1 f2 f3 f4 f5 K post n v49 τ48)))) ∧ ((((q_i τ40 75 j45) >>> (f5 &&& 31)) &&& (1 : Int32)) = (1 : Int32) → (∃ j50 : Nat, x6 = nI j50 ∧ j50 < 10 ∧ (∃ j51 : Nat, f5 = nI j51 ∧ j51 < 10 ∧ (∀ τ52 : kT, τ52 = q_sl τ40 77 j51 ((q_l τ 77 j38) + (q_l τ40 76 j50)) → (∀ v53 : Int32, v53 = x6 + (1 : Int32) → L_X11_count_186 f1 f2 f3 f4 f5 K post n v53 τ52))))))))))))))
def L_X11_count_168  (f1 : Int32) (f2 : Int32) (f3 : Int32) (f4 : Int32) (K : Int32 → kT → Prop) (post : Int64 → kT → Prop) : Nat → Int32 → kT → Prop
  | 0, _, _ => False
  | n + 1, x5, τ => (((10 : Int32) ≤ x5 → K x5 τ) ∧ (¬ (10 : Int32) ≤ x5 → (∃ j35 : Nat, x5 = nI j35 ∧ j35 < 10 ∧ (∀ τ36 : kT, τ36 = q_sl τ 77 j35 (0 : Int64) → (∃ m54 : Nat, L_X11_count_186  f1 f2 f3 f4 x5 (fun v55 τ56 => (∀ v57 : Int32, v57 = x5 + (1 : Int32) → L_X11_count_168 f1 f2 f3 f4 K post n v57 τ56)) post m54 (0 : Int32) τ36)))))
def L_X11_count_262  (f1 : Int32) (f2 : Int32) (f3 : Int32) (f4 : Int32) (K : Int32 → kT → Prop) (post : Int64 → kT → Prop) : Nat → Int32 → kT → Prop
  | 0, _, _ => False
  | n + 1, x5, τ => (((10 : Int32) ≤ x5 → K x5 τ) ∧ (¬ (10 : Int32) ≤ x5 → (∃ j62 : Nat, x5 = nI j62 ∧ j62 < 10 ∧ (∃ j63 : Nat, x5 = nI j63 ∧ j63 < 10 ∧ (∀ τ64 : kT, τ64 = q_sl τ 76 j63 (q_l τ 77 j62) → (∀ v65 : Int32, v65 = x5 + (1 : Int32) → L_X11_count_262 f1 f2 f3 f4 K post n v65 τ64))))))
def L_X11_count_159  (f1 : Int32) (f2 : Int32) (f3 : Int32) (K : Int32 → kT → Prop) (post : Int64 → kT → Prop) : Nat → Int32 → kT → Prop
  | 0, _, _ => False
  | n + 1, x4, τ => ((f2 ≤ x4 → K x4 τ) ∧ (¬ f2 ≤ x4 → (∃ m58 : Nat, L_X11_count_168  f1 f2 f3 x4 (fun v59 τ60 => (∃ m66 : Nat, L_X11_count_262  f1 f2 f3 x4 (fun v67 τ68 => (∀ v69 : Int32, v69 = x4 + (1 : Int32) → L_X11_count_159 f1 f2 f3 K post n v69 τ68)) post m66 (0 : Int32) τ60)) post m58 (0 : Int32) τ)))
def L_X11_count_301  (f1 : Int32) (f2 : Int32) (f3 : Int32) (K : Int64 → Int32 → kT → Prop) (post : Int64 → kT → Prop) : Nat → Int64 → Int32 → kT → Prop
  | 0, _, _, _ => False
  | n + 1, x4, x6, τ => (((10 : Int32) ≤ x6 → K x4 x6 τ) ∧ (¬ (10 : Int32) ≤ x6 → (∃ j74 : Nat, x6 = nI j74 ∧ j74 < 10 ∧ (∀ v75 : Int64, v75 = (x4 + (q_l τ 76 j74)) → (∀ v76 : Int32, v76 = x6 + (1 : Int32) → L_X11_count_301 f1 f2 f3 K post n v75 v76 τ)))))
def T_X11_count (a1 : Int32) (a2 : Int32) (a3 : Int32) (τ : kT) (post : Int64 → kT → Prop) : Prop := (T_X11_isDoor a1 τ (fun r1 τ2 => ((r1 = 0 → post (-2 : Int64) τ2) ∧ (¬ r1 = 0 → (T_X11_in ((a2).toInt64) (0 : Int64) (18 : Int64) τ2 (fun r4 τ5 => ((r4 = 0 → post (-2 : Int64) τ5) ∧ (¬ r4 = 0 → (T_X11_in ((a3).toInt64) (0 : Int64) (9 : Int64) τ5 (fun r7 τ8 => ((¬ r7 = 0 → (∃ m14 : Nat, L_X11_count_39  a1 a2 a3 (fun v15 τ16 => (∀ τ17 : kT, τ17 = q_si τ16 66 20 (0 : Int32) → (∃ j18 : Nat, ((4464 : Int32) + a1) = nI j18 ∧ j18 < 8530 ∧ (T_X11_narrows 2 (q_i τ17 67 j18) a2 τ17 (fun r19 τ20 => ((¬ r19 = 0 → (∀ τ22 : kT, τ22 = q_si τ20 66 4 (0 : Int32) → ((¬ (q_i τ22 66 20) = 0 → (((q_i τ22 66 20) = 0 → post (1 : Int64) τ22) ∧ (¬ (q_i τ22 66 20) = 0 → post (0 : Int64) τ22))) ∧ ((q_i τ22 66 20) = 0 → ((¬ a2 = 0 → (∃ m30 : Nat, L_X11_count_124  a1 a2 a3 (fun v31 τ32 => (∃ m70 : Nat, L_X11_count_159  a1 a2 a3 (fun v71 τ72 => (∃ m77 : Nat, L_X11_count_301  a1 a2 a3 (fun v78 v79 τ80 => post v78 τ80) post m77 (0 : Int64) (0 : Int32) τ72)) post m70 (1 : Int32) τ32)) post m30 (0 : Int32) τ22)) ∧ (a2 = 0 → (((q_i τ22 66 20) = 0 → post (1 : Int64) τ22) ∧ (¬ (q_i τ22 66 20) = 0 → post (0 : Int64) τ22)))))))) ∧ (r19 = 0 → (T_X11_met (1 : Int32) τ20 (fun r82 τ83 => post ((r82).toInt64) τ83))))))))) post m14 (0 : Int32) τ8)) ∧ (r7 = 0 → post (-2 : Int64) τ8))))))))))))
set_option maxRecDepth 100000 in
set_option maxHeartbeats 4000000 in
theorem l_X11_count_39 {d : Nat}  (f1 : Int32) (f2 : Int32) (f3 : Int32) {K : Int32 → kT → Prop} {post : Int64 → kT → Prop} (hK : ∀ (x4 : Int32) (τ : kT), K x4 τ → U yX11_count cX11_count 7 (some .long) (d + 3) kE0 62 [some (.ref 66), some (.int f1), some (.int f2), some (.int f3), some (.int x4), none, none] [] τ (k_pl post)) : ∀ (n : Nat) (x4 : Int32) (τ : kT), L_X11_count_39  f1 f2 f3 K post n x4 τ → U yX11_count cX11_count 7 (some .long) (d + 3) kE0 39 [some (.ref 66), some (.int f1), some (.int f2), some (.int f3), some (.int x4), none, none] [] τ (k_pl post) := by
  intro n
  induction n with
  | zero => intro x4 τ h; exact h.elim
  | succ n ih =>
    intro x4 τ h
    unfold L_X11_count_39 at h
    refine v_iload dX11_count_39 rfl ?_
    refine v_bipush (v := 18) dX11_count_41 (by decide) ?_
    refine v_icmp_ge (tgt := 62) dX11_count_43 (by decide) (fun c10 => ?_) (fun c10 => ?_)
    · have h := h.1 c10
      exact hK x4 _ h
    · have h := h.2 c10
      refine v_aload_n dX11_count_46 rfl rfl ?_
      refine u_getr fX11_41 dX11_count_47 sh_66 rfl (by decide) (rf_66_17 _) ?_
      refine v_iload dX11_count_50 rfl ?_
      refine v_sipush (v := 1023) dX11_count_52 (by decide) ?_
      obtain ⟨j11, e_j11, l_j11, h⟩ := h
      refine u_iast dX11_count_55 sh_75 (by decide) (by decide) e_j11 l_j11 (fun τ12 e_τ12 => ?_)
      have h := h τ12 e_τ12
      obtain ⟨v13, e_v13⟩ : ∃ z : Int32, z = x4 + (1 : Int32) := ⟨_, rfl⟩
      have h := h v13 e_v13
      refine v_iinc (v := v13) dX11_count_56 rfl (by rw [e_v13]; rfl) (by decide) rfl ?_
      refine v_ls (ls2 := [some (.ref 66), some (.int f1), some (.int f2), some (.int f3), some (.int v13), none, none]) rfl ?_
      refine v_goto (tgt := 39) dX11_count_59 (by decide) ?_
      exact ih v13 _ h
set_option maxRecDepth 100000 in
set_option maxHeartbeats 4000000 in
theorem l_X11_count_124 {d : Nat}  (f1 : Int32) (f2 : Int32) (f3 : Int32) {K : Int32 → kT → Prop} {post : Int64 → kT → Prop} (hK : ∀ (x4 : Int32) (τ : kT), K x4 τ → U yX11_count cX11_count 7 (some .long) (d + 3) kE0 156 [some (.ref 66), some (.int f1), some (.int f2), some (.int f3), some (.int x4), none, none] [] τ (k_pl post)) : ∀ (n : Nat) (x4 : Int32) (τ : kT), L_X11_count_124  f1 f2 f3 K post n x4 τ → U yX11_count cX11_count 7 (some .long) (d + 3) kE0 124 [some (.ref 66), some (.int f1), some (.int f2), some (.int f3), some (.int x4), none, none] [] τ (k_pl post) := by
  intro n
  induction n with
  | zero => intro x4 τ h; exact h.elim
  | succ n ih =>
    intro x4 τ h
    unfold L_X11_count_124 at h
    refine v_iload dX11_count_124 rfl ?_
    refine v_bipush (v := 10) dX11_count_126 (by decide) ?_
    refine v_icmp_ge (tgt := 156) dX11_count_128 (by decide) (fun c26 => ?_) (fun c26 => ?_)
    · have h := h.1 c26
      exact hK x4 _ h
    · have h := h.2 c26
      refine v_aload_n dX11_count_131 rfl rfl ?_
      refine u_getr fX11_44 dX11_count_132 sh_66 rfl (by decide) (rf_66_18 _) ?_
      refine v_iload dX11_count_135 rfl ?_
      refine v_aload_n dX11_count_137 rfl rfl ?_
      refine u_getr fX11_41 dX11_count_138 sh_66 rfl (by decide) (rf_66_17 _) ?_
      refine v_iconst (v := 0) dX11_count_141 (by decide) ?_
      refine u_iald dX11_count_142 sh_75 (by decide) (by decide) rfl (by decide) ?_
      refine v_iload dX11_count_143 rfl ?_
      refine v_ishr dX11_count_145 ?_
      refine v_iconst (v := 1) dX11_count_146 (by decide) ?_
      refine v_iand dX11_count_147 ?_
      refine v_i2l dX11_count_148 ?_
      obtain ⟨j27, e_j27, l_j27, h⟩ := h
      refine u_last id dX11_count_149 sh_76 (by decide) (by decide) e_j27 l_j27 (fun τ28 e_τ28 => ?_)
      have h := h τ28 e_τ28
      obtain ⟨v29, e_v29⟩ : ∃ z : Int32, z = x4 + (1 : Int32) := ⟨_, rfl⟩
      have h := h v29 e_v29
      refine v_iinc (v := v29) dX11_count_150 rfl (by rw [e_v29]; rfl) (by decide) rfl ?_
      refine v_ls (ls2 := [some (.ref 66), some (.int f1), some (.int f2), some (.int f3), some (.int v29), none, none]) rfl ?_
      refine v_goto (tgt := 124) dX11_count_153 (by decide) ?_
      exact ih v29 _ h
set_option maxRecDepth 100000 in
set_option maxHeartbeats 4000000 in
theorem l_X11_count_186 {d : Nat}  (f1 : Int32) (f2 : Int32) (f3 : Int32) (f4 : Int32) (f5 : Int32) {K : Int32 → kT → Prop} {post : Int64 → kT → Prop} (hK : ∀ (x6 : Int32) (τ : kT), K x6 τ → U yX11_count cX11_count 7 (some .long) (d + 3) kE0 253 [some (.ref 66), some (.int f1), some (.int f2), some (.int f3), some (.int f4), some (.int f5), some (.int x6)] [] τ (k_pl post)) : ∀ (n : Nat) (x6 : Int32) (τ : kT), L_X11_count_186  f1 f2 f3 f4 f5 K post n x6 τ → U yX11_count cX11_count 7 (some .long) (d + 3) kE0 186 [some (.ref 66), some (.int f1), some (.int f2), some (.int f3), some (.int f4), some (.int f5), some (.int x6)] [] τ (k_pl post) := by
  intro n
  induction n with
  | zero => intro x6 τ h; exact h.elim
  | succ n ih =>
    intro x6 τ h
    unfold L_X11_count_186 at h
    refine v_iload dX11_count_186 rfl ?_
    refine v_bipush (v := 10) dX11_count_188 (by decide) ?_
    refine v_icmp_ge (tgt := 253) dX11_count_190 (by decide) (fun c37 => ?_) (fun c37 => ?_)
    · have h := h.1 c37
      exact hK x6 _ h
    · have h := h.2 c37
      refine v_aload_n dX11_count_193 rfl rfl ?_
      refine u_getr fX11_48 dX11_count_194 sh_66 rfl (by decide) (rf_66_19 _) ?_
      refine v_iload dX11_count_197 rfl ?_
      refine v_dup2 dX11_count_199 rfl rfl ?_
      obtain ⟨j38, e_j38, l_j38, h⟩ := h
      refine u_lald dX11_count_200 sh_77 (by decide) (by decide) e_j38 l_j38 ?_
      refine v_iload dX11_count_201 rfl ?_
      refine v_iload dX11_count_203 rfl ?_
      refine v_isub dX11_count_205 ?_
      refine v_i2l dX11_count_206 ?_
      refine v_iload_n dX11_count_207 rfl rfl ?_
      refine v_ineg dX11_count_208 ?_
      refine v_i2l dX11_count_209 ?_
      refine v_iload_n dX11_count_210 rfl rfl ?_
      refine v_i2l dX11_count_211 ?_
      refine u_callS [.long (((f5 - x6)).toInt64), .long (((-f3)).toInt64), .long ((f3).toInt64)] mX11_in sX11_in lX11_67 dX11_count_212 ⟨rfl, rfl, id⟩ rfl rfl (Nat.le_of_ble_eq_true rfl) (Nat.le_of_ble_eq_true rfl) (v_X11_in (((f5 - x6)).toInt64) (((-f3)).toInt64) ((f3).toInt64) _ _ h) ?_
      rintro _ τ40 ⟨r39, rfl, h⟩
      refine v_if_eq (tgt := 244) dX11_count_215 (by decide) (fun c41 => ?_) (fun c41 => ?_)
      · have h := h.1 c41
        refine v_lconst (v := 0) dX11_count_244 (by decide) ?_
        refine v_ladd dX11_count_245 ?_
        obtain ⟨j42, e_j42, l_j42, h⟩ := h
        refine u_last id dX11_count_246 sh_77 (by decide) (by decide) e_j42 l_j42 (fun τ43 e_τ43 => ?_)
        have h := h τ43 e_τ43
        obtain ⟨v44, e_v44⟩ : ∃ z : Int32, z = x6 + (1 : Int32) := ⟨_, rfl⟩
        have h := h v44 e_v44
        refine v_iinc (v := v44) dX11_count_247 rfl (by rw [e_v44]; rfl) (by decide) rfl ?_
        refine v_ls (ls2 := [some (.ref 66), some (.int f1), some (.int f2), some (.int f3), some (.int f4), some (.int f5), some (.int v44)]) rfl ?_
        refine v_goto (tgt := 186) dX11_count_250 (by decide) ?_
        exact ih v44 _ h
      · have h := h.2 c41
        refine v_aload_n dX11_count_218 rfl rfl ?_
        refine u_getr fX11_41 dX11_count_219 sh_66 rfl (by decide) (rf_66_17 _) ?_
        refine v_iload dX11_count_222 rfl ?_
        obtain ⟨j45, e_j45, l_j45, h⟩ := h
        refine u_iald dX11_count_224 sh_75 (by decide) (by decide) e_j45 l_j45 ?_
        refine v_iload dX11_count_225 rfl ?_
        refine v_ishr dX11_count_227 ?_
        refine v_iconst (v := 1) dX11_count_228 (by decide) ?_
        refine v_iand dX11_count_229 ?_
        refine v_iconst (v := 1) dX11_count_230 (by decide) ?_
        refine v_icmp_ne (tgt := 244) dX11_count_231 (by decide) (fun c46 => ?_) (fun c46 => ?_)
        · have h := h.1 c46
          refine v_lconst (v := 0) dX11_count_244 (by decide) ?_
          refine v_ladd dX11_count_245 ?_
          obtain ⟨j47, e_j47, l_j47, h⟩ := h
          refine u_last id dX11_count_246 sh_77 (by decide) (by decide) e_j47 l_j47 (fun τ48 e_τ48 => ?_)
          have h := h τ48 e_τ48
          obtain ⟨v49, e_v49⟩ : ∃ z : Int32, z = x6 + (1 : Int32) := ⟨_, rfl⟩
          have h := h v49 e_v49
          refine v_iinc (v := v49) dX11_count_247 rfl (by rw [e_v49]; rfl) (by decide) rfl ?_
          refine v_ls (ls2 := [some (.ref 66), some (.int f1), some (.int f2), some (.int f3), some (.int f4), some (.int f5), some (.int v49)]) rfl ?_
          refine v_goto (tgt := 186) dX11_count_250 (by decide) ?_
          exact ih v49 _ h
        · have h := h.2 c46
          refine v_aload_n dX11_count_234 rfl rfl ?_
          refine u_getr fX11_44 dX11_count_235 sh_66 rfl (by decide) (rf_66_18 _) ?_
          refine v_iload dX11_count_238 rfl ?_
          obtain ⟨j50, e_j50, l_j50, h⟩ := h
          refine u_lald dX11_count_240 sh_76 (by decide) (by decide) e_j50 l_j50 ?_
          refine v_goto (tgt := 245) dX11_count_241 (by decide) ?_
          refine v_ladd dX11_count_245 ?_
          obtain ⟨j51, e_j51, l_j51, h⟩ := h
          refine u_last id dX11_count_246 sh_77 (by decide) (by decide) e_j51 l_j51 (fun τ52 e_τ52 => ?_)
          have h := h τ52 e_τ52
          obtain ⟨v53, e_v53⟩ : ∃ z : Int32, z = x6 + (1 : Int32) := ⟨_, rfl⟩
          have h := h v53 e_v53
          refine v_iinc (v := v53) dX11_count_247 rfl (by rw [e_v53]; rfl) (by decide) rfl ?_
          refine v_ls (ls2 := [some (.ref 66), some (.int f1), some (.int f2), some (.int f3), some (.int f4), some (.int f5), some (.int v53)]) rfl ?_
          refine v_goto (tgt := 186) dX11_count_250 (by decide) ?_
          exact ih v53 _ h
set_option maxRecDepth 100000 in
set_option maxHeartbeats 4000000 in
theorem l_X11_count_168 {d : Nat}  (f1 : Int32) (f2 : Int32) (f3 : Int32) (f4 : Int32) {K : Int32 → kT → Prop} {post : Int64 → kT → Prop} (hK : ∀ (x5 : Int32) (τ : kT), K x5 τ → U yX11_count cX11_count 7 (some .long) (d + 3) kE0 259 [some (.ref 66), some (.int f1), some (.int f2), some (.int f3), some (.int f4), some (.int x5), none] [] τ (k_pl post)) : ∀ (n : Nat) (x5 : Int32) (τ : kT), L_X11_count_168  f1 f2 f3 f4 K post n x5 τ → U yX11_count cX11_count 7 (some .long) (d + 3) kE0 168 [some (.ref 66), some (.int f1), some (.int f2), some (.int f3), some (.int f4), some (.int x5), none] [] τ (k_pl post) := by
  intro n
  induction n with
  | zero => intro x5 τ h; exact h.elim
  | succ n ih =>
    intro x5 τ h
    unfold L_X11_count_168 at h
    refine v_iload dX11_count_168 rfl ?_
    refine v_bipush (v := 10) dX11_count_170 (by decide) ?_
    refine v_icmp_ge (tgt := 259) dX11_count_172 (by decide) (fun c34 => ?_) (fun c34 => ?_)
    · have h := h.1 c34
      exact hK x5 _ h
    · have h := h.2 c34
      refine v_aload_n dX11_count_175 rfl rfl ?_
      refine u_getr fX11_48 dX11_count_176 sh_66 rfl (by decide) (rf_66_19 _) ?_
      refine v_iload dX11_count_179 rfl ?_
      refine v_lconst (v := 0) dX11_count_181 (by decide) ?_
      obtain ⟨j35, e_j35, l_j35, h⟩ := h
      refine u_last id dX11_count_182 sh_77 (by decide) (by decide) e_j35 l_j35 (fun τ36 e_τ36 => ?_)
      have h := h τ36 e_τ36
      refine v_iconst (v := 0) dX11_count_183 (by decide) ?_
      refine v_istore dX11_count_184 (by decide) rfl ?_
      refine v_ls (ls2 := [some (.ref 66), some (.int f1), some (.int f2), some (.int f3), some (.int f4), some (.int x5), some (.int (0 : Int32))]) rfl ?_
      obtain ⟨m54, h⟩ := h
      refine l_X11_count_186  f1 f2 f3 f4 x5 (fun v55 τ56 h => ?_) m54 (0 : Int32) _ h
      obtain ⟨v57, e_v57⟩ : ∃ z : Int32, z = x5 + (1 : Int32) := ⟨_, rfl⟩
      have h := h v57 e_v57
      refine v_iinc (v := v57) dX11_count_253 rfl (by rw [e_v57]; rfl) (by decide) rfl ?_
      refine v_ls (ls2 := [some (.ref 66), some (.int f1), some (.int f2), some (.int f3), some (.int f4), some (.int v57), some (.int v55)]) rfl ?_
      refine v_goto (tgt := 168) dX11_count_256 (by decide) ?_
      refine v_none 6 ?_
      refine v_ls (ls2 := [some (.ref 66), some (.int f1), some (.int f2), some (.int f3), some (.int f4), some (.int v57), none]) rfl ?_
      exact ih v57 _ h
set_option maxRecDepth 100000 in
set_option maxHeartbeats 4000000 in
theorem l_X11_count_262 {d : Nat}  (f1 : Int32) (f2 : Int32) (f3 : Int32) (f4 : Int32) {K : Int32 → kT → Prop} {post : Int64 → kT → Prop} (hK : ∀ (x5 : Int32) (τ : kT), K x5 τ → U yX11_count cX11_count 7 (some .long) (d + 3) kE0 289 [some (.ref 66), some (.int f1), some (.int f2), some (.int f3), some (.int f4), some (.int x5), none] [] τ (k_pl post)) : ∀ (n : Nat) (x5 : Int32) (τ : kT), L_X11_count_262  f1 f2 f3 f4 K post n x5 τ → U yX11_count cX11_count 7 (some .long) (d + 3) kE0 262 [some (.ref 66), some (.int f1), some (.int f2), some (.int f3), some (.int f4), some (.int x5), none] [] τ (k_pl post) := by
  intro n
  induction n with
  | zero => intro x5 τ h; exact h.elim
  | succ n ih =>
    intro x5 τ h
    unfold L_X11_count_262 at h
    refine v_iload dX11_count_262 rfl ?_
    refine v_bipush (v := 10) dX11_count_264 (by decide) ?_
    refine v_icmp_ge (tgt := 289) dX11_count_266 (by decide) (fun c61 => ?_) (fun c61 => ?_)
    · have h := h.1 c61
      exact hK x5 _ h
    · have h := h.2 c61
      refine v_aload_n dX11_count_269 rfl rfl ?_
      refine u_getr fX11_44 dX11_count_270 sh_66 rfl (by decide) (rf_66_18 _) ?_
      refine v_iload dX11_count_273 rfl ?_
      refine v_aload_n dX11_count_275 rfl rfl ?_
      refine u_getr fX11_48 dX11_count_276 sh_66 rfl (by decide) (rf_66_19 _) ?_
      refine v_iload dX11_count_279 rfl ?_
      obtain ⟨j62, e_j62, l_j62, h⟩ := h
      refine u_lald dX11_count_281 sh_77 (by decide) (by decide) e_j62 l_j62 ?_
      obtain ⟨j63, e_j63, l_j63, h⟩ := h
      refine u_last id dX11_count_282 sh_76 (by decide) (by decide) e_j63 l_j63 (fun τ64 e_τ64 => ?_)
      have h := h τ64 e_τ64
      obtain ⟨v65, e_v65⟩ : ∃ z : Int32, z = x5 + (1 : Int32) := ⟨_, rfl⟩
      have h := h v65 e_v65
      refine v_iinc (v := v65) dX11_count_283 rfl (by rw [e_v65]; rfl) (by decide) rfl ?_
      refine v_ls (ls2 := [some (.ref 66), some (.int f1), some (.int f2), some (.int f3), some (.int f4), some (.int v65), none]) rfl ?_
      refine v_goto (tgt := 262) dX11_count_286 (by decide) ?_
      exact ih v65 _ h
set_option maxRecDepth 100000 in
set_option maxHeartbeats 4000000 in
theorem l_X11_count_159 {d : Nat}  (f1 : Int32) (f2 : Int32) (f3 : Int32) {K : Int32 → kT → Prop} {post : Int64 → kT → Prop} (hK : ∀ (x4 : Int32) (τ : kT), K x4 τ → U yX11_count cX11_count 7 (some .long) (d + 3) kE0 295 [some (.ref 66), some (.int f1), some (.int f2), some (.int f3), some (.int x4), none, none] [] τ (k_pl post)) : ∀ (n : Nat) (x4 : Int32) (τ : kT), L_X11_count_159  f1 f2 f3 K post n x4 τ → U yX11_count cX11_count 7 (some .long) (d + 3) kE0 159 [some (.ref 66), some (.int f1), some (.int f2), some (.int f3), some (.int x4), none, none] [] τ (k_pl post) := by
  intro n
  induction n with
  | zero => intro x4 τ h; exact h.elim
  | succ n ih =>
    intro x4 τ h
    unfold L_X11_count_159 at h
    refine v_iload dX11_count_159 rfl ?_
    refine v_iload_n dX11_count_161 rfl rfl ?_
    refine v_icmp_ge (tgt := 295) dX11_count_162 (by decide) (fun c33 => ?_) (fun c33 => ?_)
    · have h := h.1 c33
      exact hK x4 _ h
    · have h := h.2 c33
      refine v_iconst (v := 0) dX11_count_165 (by decide) ?_
      refine v_istore dX11_count_166 (by decide) rfl ?_
      refine v_ls (ls2 := [some (.ref 66), some (.int f1), some (.int f2), some (.int f3), some (.int x4), some (.int (0 : Int32)), none]) rfl ?_
      obtain ⟨m58, h⟩ := h
      refine l_X11_count_168  f1 f2 f3 x4 (fun v59 τ60 h => ?_) m58 (0 : Int32) _ h
      refine v_iconst (v := 0) dX11_count_259 (by decide) ?_
      refine v_istore dX11_count_260 (by decide) rfl ?_
      refine v_ls (ls2 := [some (.ref 66), some (.int f1), some (.int f2), some (.int f3), some (.int x4), some (.int (0 : Int32)), none]) rfl ?_
      obtain ⟨m66, h⟩ := h
      refine l_X11_count_262  f1 f2 f3 x4 (fun v67 τ68 h => ?_) m66 (0 : Int32) _ h
      obtain ⟨v69, e_v69⟩ : ∃ z : Int32, z = x4 + (1 : Int32) := ⟨_, rfl⟩
      have h := h v69 e_v69
      refine v_iinc (v := v69) dX11_count_289 rfl (by rw [e_v69]; rfl) (by decide) rfl ?_
      refine v_ls (ls2 := [some (.ref 66), some (.int f1), some (.int f2), some (.int f3), some (.int v69), some (.int v67), none]) rfl ?_
      refine v_goto (tgt := 159) dX11_count_292 (by decide) ?_
      refine v_none 5 ?_
      refine v_ls (ls2 := [some (.ref 66), some (.int f1), some (.int f2), some (.int f3), some (.int v69), none, none]) rfl ?_
      exact ih v69 _ h
set_option maxRecDepth 100000 in
set_option maxHeartbeats 4000000 in
theorem l_X11_count_301 {d : Nat}  (f1 : Int32) (f2 : Int32) (f3 : Int32) {K : Int64 → Int32 → kT → Prop} {post : Int64 → kT → Prop} (hK : ∀ (x4 : Int64) (x6 : Int32) (τ : kT), K x4 x6 τ → U yX11_count cX11_count 7 (some .long) (d + 3) kE0 326 [some (.ref 66), some (.int f1), some (.int f2), some (.int f3), some (.long x4), none, some (.int x6)] [] τ (k_pl post)) : ∀ (n : Nat) (x4 : Int64) (x6 : Int32) (τ : kT), L_X11_count_301  f1 f2 f3 K post n x4 x6 τ → U yX11_count cX11_count 7 (some .long) (d + 3) kE0 301 [some (.ref 66), some (.int f1), some (.int f2), some (.int f3), some (.long x4), none, some (.int x6)] [] τ (k_pl post) := by
  intro n
  induction n with
  | zero => intro x4 x6 τ h; exact h.elim
  | succ n ih =>
    intro x4 x6 τ h
    unfold L_X11_count_301 at h
    refine v_iload dX11_count_301 rfl ?_
    refine v_bipush (v := 10) dX11_count_303 (by decide) ?_
    refine v_icmp_ge (tgt := 326) dX11_count_305 (by decide) (fun c73 => ?_) (fun c73 => ?_)
    · have h := h.1 c73
      exact hK x4 x6 _ h
    · have h := h.2 c73
      refine v_lload dX11_count_308 rfl ?_
      refine v_aload_n dX11_count_310 rfl rfl ?_
      refine u_getr fX11_44 dX11_count_311 sh_66 rfl (by decide) (rf_66_18 _) ?_
      refine v_iload dX11_count_314 rfl ?_
      obtain ⟨j74, e_j74, l_j74, h⟩ := h
      refine u_lald dX11_count_316 sh_76 (by decide) (by decide) e_j74 l_j74 ?_
      refine v_ladd dX11_count_317 ?_
      refine v_topl (fun v75 e_v75 => ?_)
      have h := h v75 e_v75
      refine v_lstore dX11_count_318 (by decide) rfl ?_
      refine v_ls (ls2 := [some (.ref 66), some (.int f1), some (.int f2), some (.int f3), some (.long v75), none, some (.int x6)]) rfl ?_
      obtain ⟨v76, e_v76⟩ : ∃ z : Int32, z = x6 + (1 : Int32) := ⟨_, rfl⟩
      have h := h v76 e_v76
      refine v_iinc (v := v76) dX11_count_320 rfl (by rw [e_v76]; rfl) (by decide) rfl ?_
      refine v_ls (ls2 := [some (.ref 66), some (.int f1), some (.int f2), some (.int f3), some (.long v75), none, some (.int v76)]) rfl ?_
      refine v_goto (tgt := 301) dX11_count_323 (by decide) ?_
      exact ih v75 v76 _ h
set_option maxRecDepth 100000 in
set_option maxHeartbeats 4000000 in
theorem v_X11_count {d : Nat}  (a1 : Int32) (a2 : Int32) (a3 : Int32) (τ : kT) (post : Int64 → kT → Prop) (h : T_X11_count  a1 a2 a3 τ post) : U yX11_count cX11_count 7 (some .long) (d + 3) kE0 0 [some (.ref 66), some (.int a1), some (.int a2), some (.int a3), none, none, none] [] τ (k_pl post) := by
  unfold T_X11_count at h
  refine v_aload_n dX11_count_0 rfl rfl ?_
  refine v_iload_n dX11_count_1 rfl rfl ?_
  refine u_callV [.int a1] mX11_isDoor iX11_isDoor lX11_138 dX11_count_2 sh_66 rfl rfl (by decide) ⟨rfl, rfl, id⟩ rfl rfl (Nat.le_of_ble_eq_true rfl) (Nat.le_of_ble_eq_true rfl) (v_X11_isDoor a1 _ _ h) ?_
  rintro _ τ2 ⟨r1, rfl, h⟩
  refine v_if_eq (tgt := 32) dX11_count_5 (by decide) (fun c3 => ?_) (fun c3 => ?_)
  · have h := h.1 c3
    refine v_ldc2 kX11_206 dX11_count_32 ?_
    exact u_lret dX11_count_35 ⟨rfl, id⟩ h
  · have h := h.2 c3
    refine v_iload_n dX11_count_8 rfl rfl ?_
    refine v_i2l dX11_count_9 ?_
    refine v_lconst (v := 0) dX11_count_10 (by decide) ?_
    refine v_ldc2 kX11_204 dX11_count_11 ?_
    refine u_callS [.long ((a2).toInt64), .long (0 : Int64), .long (18 : Int64)] mX11_in sX11_in lX11_67 dX11_count_14 ⟨rfl, rfl, id⟩ rfl rfl (Nat.le_of_ble_eq_true rfl) (Nat.le_of_ble_eq_true rfl) (v_X11_in ((a2).toInt64) (0 : Int64) (18 : Int64) _ _ h) ?_
    rintro _ τ5 ⟨r4, rfl, h⟩
    refine v_if_eq (tgt := 32) dX11_count_17 (by decide) (fun c6 => ?_) (fun c6 => ?_)
    · have h := h.1 c6
      refine v_ldc2 kX11_206 dX11_count_32 ?_
      exact u_lret dX11_count_35 ⟨rfl, id⟩ h
    · have h := h.2 c6
      refine v_iload_n dX11_count_20 rfl rfl ?_
      refine v_i2l dX11_count_21 ?_
      refine v_lconst (v := 0) dX11_count_22 (by decide) ?_
      refine v_ldc2 kX11_91 dX11_count_23 ?_
      refine u_callS [.long ((a3).toInt64), .long (0 : Int64), .long (9 : Int64)] mX11_in sX11_in lX11_67 dX11_count_26 ⟨rfl, rfl, id⟩ rfl rfl (Nat.le_of_ble_eq_true rfl) (Nat.le_of_ble_eq_true rfl) (v_X11_in ((a3).toInt64) (0 : Int64) (9 : Int64) _ _ h) ?_
      rintro _ τ8 ⟨r7, rfl, h⟩
      refine v_if_ne (tgt := 36) dX11_count_29 (by decide) (fun c9 => ?_) (fun c9 => ?_)
      · have h := h.1 c9
        refine v_iconst (v := 0) dX11_count_36 (by decide) ?_
        refine v_istore dX11_count_37 (by decide) rfl ?_
        refine v_ls (ls2 := [some (.ref 66), some (.int a1), some (.int a2), some (.int a3), some (.int (0 : Int32)), none, none]) rfl ?_
        obtain ⟨m14, h⟩ := h
        refine l_X11_count_39  a1 a2 a3 (fun v15 τ16 h => ?_) m14 (0 : Int32) _ h
        refine v_aload_n dX11_count_62 rfl rfl ?_
        refine v_iconst (v := 0) dX11_count_63 (by decide) ?_
        refine u_puti pX11_201 (by first | exact Or.inl rfl | exact Or.inr rfl) dX11_count_64 sh_66 rfl (by decide) (by decide) (fun τ17 e_τ17 => ?_)
        have h := h τ17 e_τ17
        refine v_aload_n dX11_count_67 rfl rfl ?_
        refine v_aload_n dX11_count_68 rfl rfl ?_
        refine u_getr fX11_7 dX11_count_69 sh_66 rfl (by decide) (rf_66_0 _) ?_
        refine v_sipush (v := 4464) dX11_count_72 (by decide) ?_
        refine v_iload_n dX11_count_75 rfl rfl ?_
        refine v_iadd dX11_count_76 ?_
        obtain ⟨j18, e_j18, l_j18, h⟩ := h
        refine u_iald dX11_count_77 sh_67 (by decide) (by decide) e_j18 l_j18 ?_
        refine v_iload_n dX11_count_78 rfl rfl ?_
        refine u_callV [.int (q_i τ17 67 j18), .int a2] mX11_narrows iX11_narrows lX11_198 dX11_count_79 sh_66 rfl rfl (by decide) ⟨rfl, rfl, id⟩ rfl rfl (Nat.le_of_ble_eq_true rfl) (Nat.le_of_ble_eq_true rfl) (v_X11_narrows_N (q_i τ17 67 j18) a2 _ _ h) ?_
        rintro _ τ20 ⟨r19, rfl, h⟩
        refine v_if_ne (tgt := 92) dX11_count_82 (by decide) (fun c21 => ?_) (fun c21 => ?_)
        · have h := h.1 c21
          refine v_aload_n dX11_count_92 rfl rfl ?_
          refine v_iconst (v := 0) dX11_count_93 (by decide) ?_
          refine u_puti pX11_57 ⟨_, rfl⟩ dX11_count_94 sh_66 rfl (by decide) (by decide) (fun τ22 e_τ22 => ?_)
          have h := h τ22 e_τ22
          refine v_aload_n dX11_count_97 rfl rfl ?_
          refine u_geti fX11_201 dX11_count_98 sh_66 rfl (by decide) ?_
          refine v_if_ne (tgt := 108) dX11_count_101 (by decide) (fun c23 => ?_) (fun c23 => ?_)
          · have h := h.1 c23
            refine v_aload_n dX11_count_108 rfl rfl ?_
            refine u_geti fX11_201 dX11_count_109 sh_66 rfl (by decide) ?_
            refine v_if_eq (tgt := 119) dX11_count_112 (by decide) (fun c24 => ?_) (fun c24 => ?_)
            · have h := h.1 c24
              refine v_lconst (v := 1) dX11_count_119 (by decide) ?_
              exact u_lret dX11_count_120 ⟨rfl, id⟩ h
            · have h := h.2 c24
              refine v_lconst (v := 0) dX11_count_115 (by decide) ?_
              refine v_goto (tgt := 120) dX11_count_116 (by decide) ?_
              exact u_lret dX11_count_120 ⟨rfl, id⟩ h
          · have h := h.2 c23
            refine v_iload_n dX11_count_104 rfl rfl ?_
            refine v_if_ne (tgt := 121) dX11_count_105 (by decide) (fun c25 => ?_) (fun c25 => ?_)
            · have h := h.1 c25
              refine v_iconst (v := 0) dX11_count_121 (by decide) ?_
              refine v_istore dX11_count_122 (by decide) rfl ?_
              refine v_ls (ls2 := [some (.ref 66), some (.int a1), some (.int a2), some (.int a3), some (.int (0 : Int32)), none, none]) rfl ?_
              obtain ⟨m30, h⟩ := h
              refine l_X11_count_124  a1 a2 a3 (fun v31 τ32 h => ?_) m30 (0 : Int32) _ h
              refine v_iconst (v := 1) dX11_count_156 (by decide) ?_
              refine v_istore dX11_count_157 (by decide) rfl ?_
              refine v_ls (ls2 := [some (.ref 66), some (.int a1), some (.int a2), some (.int a3), some (.int (1 : Int32)), none, none]) rfl ?_
              obtain ⟨m70, h⟩ := h
              refine l_X11_count_159  a1 a2 a3 (fun v71 τ72 h => ?_) m70 (1 : Int32) _ h
              refine v_lconst (v := 0) dX11_count_295 (by decide) ?_
              refine v_lstore dX11_count_296 (by decide) rfl ?_
              refine v_ls (ls2 := [some (.ref 66), some (.int a1), some (.int a2), some (.int a3), some (.long (0 : Int64)), none, none]) rfl ?_
              refine v_iconst (v := 0) dX11_count_298 (by decide) ?_
              refine v_istore dX11_count_299 (by decide) rfl ?_
              refine v_ls (ls2 := [some (.ref 66), some (.int a1), some (.int a2), some (.int a3), some (.long (0 : Int64)), none, some (.int (0 : Int32))]) rfl ?_
              obtain ⟨m77, h⟩ := h
              refine l_X11_count_301  a1 a2 a3 (fun v78 v79 τ80 h => ?_) m77 (0 : Int64) (0 : Int32) _ h
              refine v_lload dX11_count_326 rfl ?_
              exact u_lret dX11_count_328 ⟨rfl, id⟩ h
            · have h := h.2 c25
              refine v_aload_n dX11_count_108 rfl rfl ?_
              refine u_geti fX11_201 dX11_count_109 sh_66 rfl (by decide) ?_
              refine v_if_eq (tgt := 119) dX11_count_112 (by decide) (fun c81 => ?_) (fun c81 => ?_)
              · have h := h.1 c81
                refine v_lconst (v := 1) dX11_count_119 (by decide) ?_
                exact u_lret dX11_count_120 ⟨rfl, id⟩ h
              · have h := h.2 c81
                refine v_lconst (v := 0) dX11_count_115 (by decide) ?_
                refine v_goto (tgt := 120) dX11_count_116 (by decide) ?_
                exact u_lret dX11_count_120 ⟨rfl, id⟩ h
        · have h := h.2 c21
          refine v_aload_n dX11_count_85 rfl rfl ?_
          refine v_iconst (v := 1) dX11_count_86 (by decide) ?_
          refine u_callV [.int (1 : Int32)] mX11_met iX11_met lX11_80 dX11_count_87 sh_66 rfl rfl (by decide) ⟨rfl, rfl, id⟩ rfl rfl (Nat.le_of_ble_eq_true rfl) (Nat.le_of_ble_eq_true rfl) (v_X11_met (1 : Int32) _ _ h) ?_
          rintro _ τ83 ⟨r82, rfl, h⟩
          refine v_i2l dX11_count_90 ?_
          exact u_lret dX11_count_91 ⟨rfl, id⟩ h
      · have h := h.2 c9
        refine v_ldc2 kX11_206 dX11_count_32 ?_
        exact u_lret dX11_count_35 ⟨rfl, id⟩ h
