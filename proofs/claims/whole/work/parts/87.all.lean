/-! ===== the beginning; all operations ===== -/
theorem s_0 : q_i q_0 67 = upd (fun _ => 0) 8528 (-1) := rfl
theorem s_0n {i : Nat} (h : i ≠ 8528) : q_i q_0 67 i = 0 := by rw [s_0, upd_ne h]
theorem N_0 {i : Nat} (h : i ≠ 8528) : N (q_i q_0 67) i = 0 := by unfold N; rw [s_0n h]; rfl
theorem inv_0 : InvS (q_i q_0 67) := by
  have z : ∀ {i : Nat}, i ≠ 8528 → q_i q_0 67 i = nI (N (q_i q_0 67) i) := fun h => by rw [N_0 h, s_0n h]; rfl
  refine ⟨⟨z (by decide), ?_⟩, ⟨z (by decide), ?_⟩, ⟨z (by decide), ?_⟩, ⟨z (by decide), ?_⟩, ⟨z (by decide), ?_⟩, ⟨z (by decide), ?_⟩, Or.inl rfl, fun c hc => ?_, fun c j hc => ?_, fun w => absurd rfl w, fun k hk => ?_, fun k i hk => ?_, fun k d hk => ?_, fun c hc => ?_, fun c p hc => ?_, fun d hd => ?_⟩
  · rw [N_0 (by decide)]; omega
  · rw [N_0 (by decide)]; omega
  · rw [N_0 (by decide)]; omega
  · rw [N_0 (by decide)]; omega
  · rw [N_0 (by decide)]; omega
  · rw [N_0 (by decide)]; omega
  · rw [N_0 (by decide)] at hc; exact absurd hc (by omega)
  · rw [N_0 (by decide)] at hc; exact absurd hc (by omega)
  · rw [N_0 (by decide)] at hk; exact absurd hk (by omega)
  · rw [N_0 (by decide)] at hk; exact absurd hk (by omega)
  · rw [N_0 (by decide)] at hk; exact absurd hk (by omega)
  · rw [N_0 (by decide)] at hc; exact absurd hc (by omega)
  · rw [N_0 (by decide)] at hc; exact absurd hc (by omega)
  · rw [N_0 (by decide)] at hd; exact absurd hd (by omega)
theorem corr_0 : Corr q_0 1 (q_i q_0 67) := by
  have no : ∀ {i c : Nat} {P : Prop}, i ≠ 8528 → c < N (q_i q_0 67) i → P := fun h hc => by rw [N_0 h] at hc; exact absurd hc (by omega)
  refine ⟨?_, fun k d hk _ => no (by decide) hk⟩
  rintro ⟨t, c, j⟩ h
  match t, h with
  | 0, h =>
    obtain ⟨hc7, rfl⟩ := h
    match c, hc7 with
    | 0, _ => exact (s_0n (i := 8525) (by decide)).symm
    | 1, _ => exact (s_0n (i := 8526) (by decide)).symm
    | 2, _ => exact (s_0n (i := 8527) (by decide)).symm
    | 3, _ => exact (s_0n (i := 8522) (by decide)).symm
    | 4, _ => rfl
    | 5, _ => exact (s_0n (i := 8523) (by decide)).symm
    | 6, _ => exact (s_0n (i := 8524) (by decide)).symm
  | 1, h => exact no (by decide) h.1
  | 2, h => exact no (by decide) h.1
  | 3, h => exact no (by decide) h.1
  | 4, h => exact no (by decide) h.1
  | 5, h => exact no (by decide) h.1
  | 6, h =>
    have h2 : j < N (q_i q_0 67) 8528 := h.2
    rw [show N (q_i q_0 67) 8528 = 0 by unfold N; rw [s_0, upd_eq]; rfl] at h2
    exact absurd h2 (by omega)
  | 7, h => exact no (by decide) h.1
  | 8, h => exact no (by decide) h.1
  | 9, h => exact no (by decide) h.1
  | 10, h => exact no (by decide) h.1
  | 11, h => exact no (by decide) h.1
  | 12, h => exact no (by decide) h.1
  | 13, h => exact no (by decide) h.1
  | t + 14, h => exact h.elim
theorem j_0 : J q_0 := by
  refine ⟨inv_0, corr_0, Or.inl rfl, rfl, fun w => absurd (show q_i q_0 0 2 = 0 from rfl) (by rw [w]; decide), ⟨rfl, rfl, rfl⟩, rfl, rfl, ⟨rfl, rfl, Nat.zero_le _, fun i _ hi => absurd hi (Nat.not_lt_zero i)⟩, fun k hk => ⟨s_0n (by omega), rfl⟩, rfl⟩
theorem k_all : K_all J := ⟨k_cylinder_op, k_twin_op, k_height_op, k_heightAt_op, k_takeCore_op, k_putCore_op, k_kind_op, k_chambers_op, k_weight_op, k_blanks_op, k_key_op, k_turned_op, k_cut_op, k_length_op, k_turn_op, k_opens_op, k_turnAll_op, k_at_op, k_cabinet_op, k_put_op, k_inside_op, k_door_op, k_fit_op, k_person_op, k_lend_op, k_bringBack_op, k_lose_op, k_found_op, k_holder_op, k_wish_op, k_work_op, k_anew_op, k_trials_op, k_count_op, k_carry_op, k_closed_op, k_endangered_op, k_undo_op, k_finding_op, k_trace_op, k_told_op⟩
