theorem RS_0 {τ τ1 τ2 : kT} (h1 : τ1 = q_si τ 66 9 0) (h2 : τ2 = q_si τ1 66 7 (-1)) : RS τ τ2 0 (q_i τ 69) (-1) := by
  refine ⟨fun x n1 n2 => ?_, fun x => ?_, fun k n9 n7 => ?_, ?_, ?_, ?_⟩
  · rw [h2, h1, q_i_si, if_neg n1, q_i_si, if_neg n1]
  · rw [h2, h1]; rfl
  · rw [h2, h1, q_i_si, if_pos rfl, upd_at, if_neg n7, q_i_si, if_pos rfl, upd_at, if_neg n9]
  · rw [h2, h1]; rfl
  · rw [h2, h1]; rfl
  · rw [h2, h1]; rfl
theorem lt_1 (l : List Int32) : lt 1 l = l := by unfold lt; rw [if_neg (by decide)]
theorem k_turnOne {τ τ1 τ2 : kT} {v : Int32} {k : Nat} (hJ : J τ) (hk : k < N (q_i τ 67) 8523) (hv : z_or v (fun x => x < N (q_i τ 67) 8522)) (h1 : TS τ τ1 (0 + (tgK (q_i τ 67) k v).length) (pshL 0 (q_i τ 41) (tgK (q_i τ 67) k v)) (spO 0 (rwK (q_i τ 67) k v) (-1))) (h2 : SC τ1 τ2 (fdC (rwK (q_i τ 67) k v).1) (fiC (rwK (q_i τ 67) k v).1)) : T_X11_turnOne (nI k) v τ2 (fun r τ5 => cC (rwK (q_i τ 67) k v).1 = r ∧ J τ5) := by
  have e67 : q_i τ2 67 = q_i τ 67 := by rw [h2.1 67 (by decide), h1.1 67 (by decide) (by decide) (by decide)]
  intro τ3 h3 τ4 h4
  refine r_tried (τ := τ2) (b := 1) (by rw [e67]; exact hJ.1) (RS_0 h3 h4) (by omega) (by rw [e67]; exact hk) (by rw [e67]; exact hv) (fun τ5 h5 τ6 h6 => ?_)
  rw [e67, lt_1] at h5
  rw [e67]
  refine r_end (rwK_1 _ _ _) (fun τ7 h7 => ⟨rfl, ?_⟩)
  rw [h5.2.2.2.2.2] at h6
  refine J_turn hJ h1 h2 h5 h6 h7 (by have := tgK_len (q_i τ 67) k v; omega) (fun i hi hi2 => ?_)
  exact pshL_agree _ 0 _ _ (fun i _ q => absurd q (by omega)) i hi hi2
theorem k_turn_op : K_turn J := by
  intro a b τ hJ
  obtain ⟨nk, hnk, k1, k2, k3⟩ := hJ.nk
  obtain ⟨nc, hnc, c1, c2, c3⟩ := hJ.nc
  unfold T_X10_turn T_X11_turn
  by_cases h : inn a nk
  · obtain ⟨k, hk, rfl⟩ := h
    refine s_X5_has_t k1 (by omega) hk (br_f (by decide) ?_)
    by_cases hb : inn b nc
    · obtain ⟨c, hc, rfl⟩ := hb
      refine s_X4_has_t c1 (by omega) hc (bn_t (by decide) (c_begin (fun τ1 h1 => ?_)))
      have hv : z_or (nI c) (fun x => x < N (q_i τ 67) 8522) := Or.inr ⟨c, by show c < _; rw [c3]; exact hc, rfl⟩
      refine c_try hJ h1 (by omega) (by rw [k3]; exact hk) hv (fun τ2 h2 => s_settle_c (rwK_1 _ _ _) (fun τ3 h3 => ?_))
      have e67 : q_i τ3 67 = q_i τ 67 := by rw [h3.1 67 (by decide), h2.1 67 (by decide) (by decide) (by decide)]
      refine s_X11_isKey_t (by rw [e67]; exact k2) (by omega) hk (br_f (by decide) ?_)
      refine s_X11_isCylinder_t (by rw [e67]; exact c2) (by omega) hc (br_f (by decide) ?_)
      exact k_turnOne hJ (by rw [k3]; exact hk) hv h2 h3
    · refine s_X4_has_f c1 (by omega) hb (bn_f rfl ?_)
      refine s_X11_isKey_t k2 (by omega) hk (br_f (by decide) ?_)
      exact s_X11_isCylinder_f c2 (by omega) hb (br_t rfl ⟨rfl, hJ⟩)
  · refine s_X5_has_f k1 (by omega) h (br_t rfl ?_)
    exact s_X11_isKey_f k2 (by omega) h (br_t rfl ⟨rfl, hJ⟩)
theorem J.lock {τ : kT} (h : J τ) {d : Nat} (hd : d < N (q_i τ 67) 8525) : q_i τ 19 d = q_i τ 67 (4464 + d) ∧ z_or (q_i τ 67 (4464 + d)) (fun x => x < N (q_i τ 67) 8522) := ⟨h.2.1.1 (13, d, 0) ⟨hd, rfl⟩, h.1.2.2.2.2.2.2.2.2.2.2.2.2.2.2.2 d hd⟩
theorem k_opens_op : K_opens J := by
  intro a b τ hJ
  obtain ⟨nk, hnk, k1, k2, k3⟩ := hJ.nk
  obtain ⟨nd, hnd, d1, d2, d3⟩ := hJ.nd
  unfold T_X10_opens T_X11_opens
  by_cases h : inn a nk
  · obtain ⟨k, hk, rfl⟩ := h
    refine s_X5_has_t k1 (by omega) hk (br_f (by decide) ?_)
    by_cases hb : inn b nd
    · obtain ⟨d, hd, rfl⟩ := hb
      obtain ⟨l1, hv⟩ := hJ.lock (d := d) (by rw [d3]; exact hd)
      refine s_X6_hasDoor_t d1 (by omega) hd (bn_t (by decide) (c_begin (fun τ1 h1 => ⟨d, rfl, by omega, ?_⟩)))
      rw [h1.1 19 (by decide) (by decide) (by decide), l1]
      refine c_try hJ h1 (by omega) (by rw [k3]; exact hk) hv (fun τ2 h2 => s_settle_c (rwK_1 _ _ _) (fun τ3 h3 => ?_))
      have e67 : q_i τ3 67 = q_i τ 67 := by rw [h3.1 67 (by decide), h2.1 67 (by decide) (by decide) (by decide)]
      refine s_X11_isKey_t (by rw [e67]; exact k2) (by omega) hk (br_f (by decide) ?_)
      refine s_X11_isDoor_t (by rw [e67]; exact d2) (by omega) hd (br_f (by decide) ⟨4464 + d, nI_add 4464 d, by omega, ?_⟩)
      rw [e67]
      exact k_turnOne hJ (by rw [k3]; exact hk) hv h2 h3
    · refine s_X6_hasDoor_f d1 (by omega) hb (bn_f rfl ?_)
      refine s_X11_isKey_t k2 (by omega) hk (br_f (by decide) ?_)
      exact s_X11_isDoor_f d2 (by omega) hb (br_t rfl ⟨rfl, hJ⟩)
  · refine s_X5_has_f k1 (by omega) h (br_t rfl ?_)
    exact s_X11_isKey_f k2 (by omega) h (br_t rfl ⟨rfl, hJ⟩)
/-! turnAll: place by place -/
/-- fuel, place: how many, the code of the last, what is noted, the spot -/
def allT (s : Nat → Int32) (k b : Nat) : Nat → Nat → Nat × Nat × List Int32 × Int32 → Nat × Nat × List Int32 × Int32
  | 0, _, x => x
  | n + 1, p, x =>
    let v := s (4224 + 20 * b + p)
    let e := rwK s k v
    if e.1 = 1 then allT s k b n (p + 1) (x.1 + 1, 1, x.2.2.1 ++ tgK s k v, spO 0 e (-1)) else (x.1, e.1, x.2.2.1 ++ tgK s k v, spO 0 e (-1))
