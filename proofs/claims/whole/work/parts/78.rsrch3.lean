/-! ===== the reference: the loop of the search ===== -/
noncomputable def cV (st : (Nat → Nat) → Nat → Prop) (nxt : (Nat → Nat) → Nat → Out) (cn : (Nat → Nat) → Nat → Nat) (p : Nat) : Nat → (Nat → Nat) → Nat → Nat
  | 0, _, _ => 1
  | m + 1, g, tr => if 4000 ≤ tr then 1 else
    cif (st (updN g p (9 - m)) p) (cn (updN g p (9 - m)) (tr + 1) + (if (nxt (updN g p (9 - m)) (tr + 1)).1 = 0 then cV st nxt cn p m (nxt (updN g p (9 - m)) (tr + 1)).2.1 (nxt (updN g p (9 - m)) (tr + 1)).2.2 else 0) + 1) (cV st nxt cn p m (updN g p (9 - m)) (tr + 1) + 1)
noncomputable def cP (st : (Nat → Nat) → Nat → Prop) (nm : (Nat → Nat) → Prop) (M : Nat) : Nat → (Nat → Nat) → Nat → Nat
  | 0, _, _ => 0
  | r + 1, g, tr => cV st (tryP st nm M r) (cP st nm M r) (M - (r + 1)) 10 g tr
def mask (τ2 : kT) (op : Nat → Nat → Bool) (hh : Nat → Nat → Nat) (lo n T d : Nat) (g : Nat → Nat) : Prop := ∀ j, j < d → ∀ c, c < n → q_i τ2 74 (5 * j + c) = nI (Mk op hh lo n T g j c)
theorem RRel.congr {τ0 τ : kT} {k n lo p tr : Nat} {lc g g' : Nat → Nat} (h : RRel τ0 τ k n lo lc p g tr) (hg : ∀ q, q < p → g' q = g q) : RRel τ0 τ k n lo lc p g' tr := ⟨h.1, fun q hq => by rw [hg q hq]; exact h.2.1 q hq, h.2.2⟩
theorem r_tryV {τ0 : kT} {k d n sp lo T : Nat} {lv : Int32} {op nv : Nat → Nat → Bool} {bl : Nat → Bool} {ms cy lc : Nat → Nat} {hh : Nat → Nat → Nat} (hS : Sz k d n sp lo T lv) (h0 : R0 τ0 k d n lo T op nv bl ms cy hh) (hlc : ∀ c, c < n → lc c ≤ 9) {K : Int32 → kT → Prop} {post : Int32 → kT → Prop} {p : Nat} (hp : p < T * n) {nxt : (Nat → Nat) → Nat → Out} {cn : (Nat → Nat) → Nat → Nat}
    (hx : ∀ g tr, tr ≤ 4000 → (nxt g tr).2.2 ≤ 4000 ∧ ((nxt g tr).1 = 0 ∨ (nxt g tr).1 = 1 ∨ (nxt g tr).1 = 2))
    (hgo : ∀ g tr τ F, tr ≤ 4000 → RRel τ0 τ k n lo lc (p + 1) g tr → ((nxt g tr).1 = 0 → ∀ τ2, RRel τ0 τ2 k n lo lc (p + 1) (nxt g tr).2.1 (nxt g tr).2.2 → (∀ q, q < p + 1 → q_i τ2 71 q = q_i τ 71 q) → L_X11_search_34 lv (nI k) (nI d) (nI n) (nI sp) K post F (nI p) τ2) → ((nxt g tr).1 = 1 → ∀ τ2, RRel τ0 τ2 k n lo lc (T * n) (nxt g tr).2.1 (nxt g tr).2.2 → mask τ2 op hh lo n T d (nxt g tr).2.1 → post 1 τ2) → ((nxt g tr).1 = 2 → ∀ τ2, RRel τ0 τ2 k n lo lc 0 (nxt g tr).2.1 (nxt g tr).2.2 → post (-5) τ2) →
      (((nI p + (1 : Int32)) < ((q_i τ 66 14) * nI n) → (∀ v19 : Int32, v19 = nI p + (1 : Int32) → ((¬ v19 = ((q_i τ 66 14) * nI n) → (∃ j21 : Nat, v19 = nI j21 ∧ j21 < 30 ∧ (∀ τ22 : kT, τ22 = q_si τ 71 j21 (0 : Int32) → L_X11_search_34 lv (nI k) (nI d) (nI n) (nI sp) K post (cn g tr + F) v19 τ22))) ∧ (v19 = ((q_i τ 66 14) * nI n) → post (1 : Int32) τ)))) ∧ (¬ (nI p + (1 : Int32)) < ((q_i τ 66 14) * nI n) → (T_X11_areNeversMet (nI k) (nI d) (nI n) τ (fun r23 τ24 => ((r23 = 0 → L_X11_search_34 lv (nI k) (nI d) (nI n) (nI sp) K post (cn g tr + F) (nI p) τ24) ∧ (¬ r23 = 0 → (∀ v26 : Int32, v26 = nI p + (1 : Int32) → ((¬ v26 = ((q_i τ24 66 14) * nI n) → (∃ j28 : Nat, v26 = nI j28 ∧ j28 < 30 ∧ (∀ τ29 : kT, τ29 = q_si τ24 71 j28 (0 : Int32) → L_X11_search_34 lv (nI k) (nI d) (nI n) (nI sp) K post (cn g tr + F) v26 τ29))) ∧ (v26 = ((q_i τ24 66 14) * nI n) → post (1 : Int32) τ24)))))))))) :
    ∀ m g tr τ F, m ≤ 10 → tr ≤ 4000 → RRel τ0 τ k n lo lc p g tr → q_i τ 71 p = nI (10 - m) →
      ((tryV (stP op ms lc (lo < k) lo n d sp) nxt p m g tr).1 = 0 → ∀ τ2, RRel τ0 τ2 k n lo lc p (tryV (stP op ms lc (lo < k) lo n d sp) nxt p m g tr).2.1 (tryV (stP op ms lc (lo < k) lo n d sp) nxt p m g tr).2.2 → (∀ q, q < p → q_i τ2 71 q = q_i τ 71 q) → L_X11_search_34 lv (nI k) (nI d) (nI n) (nI sp) K post F (nI p + (-1 : Int32)) τ2) →
      ((tryV (stP op ms lc (lo < k) lo n d sp) nxt p m g tr).1 = 1 → ∀ τ2, RRel τ0 τ2 k n lo lc (T * n) (tryV (stP op ms lc (lo < k) lo n d sp) nxt p m g tr).2.1 (tryV (stP op ms lc (lo < k) lo n d sp) nxt p m g tr).2.2 → mask τ2 op hh lo n T d (tryV (stP op ms lc (lo < k) lo n d sp) nxt p m g tr).2.1 → post 1 τ2) →
      ((tryV (stP op ms lc (lo < k) lo n d sp) nxt p m g tr).1 = 2 → ∀ τ2, RRel τ0 τ2 k n lo lc 0 (tryV (stP op ms lc (lo < k) lo n d sp) nxt p m g tr).2.1 (tryV (stP op ms lc (lo < k) lo n d sp) nxt p m g tr).2.2 → post (-5) τ2) →
      L_X11_search_34 lv (nI k) (nI d) (nI n) (nI sp) K post (cV (stP op ms lc (lo < k) lo n d sp) nxt cn p m g tr + F) (nI p) τ := by
  obtain ⟨z1, z2, z3, z4, z5, z6, z7, -⟩ := id hS
  obtain ⟨a1, a2, -⟩ := id h0
  have tT := dm_T z3 hp
  have p6 : p / n < 6 := Nat.lt_of_lt_of_le tT z6
  have kk : key lo (p / n) < 6 := Nat.lt_of_lt_of_le (z7 _ tT) z1
  have cnn := Nat.mod_lt p z3
  have p30 : p < 30 := by
    have : T * n ≤ 6 * 5 := Nat.mul_le_mul z6 z4
    omega
  have nz : ¬ nI n = 0 := fun y => absurd ((nI_eq (b := 0) (by omega) (by decide)).mp y) (by omega)
  have ix30 : ix n lo p < 30 := by
    unfold ix
    generalize key lo (p / n) = y at kk ⊢
    omega
  intro m
  induction m with
  | zero =>
    intro g tr τ F hm ht hR h71 hP0 hP1 hP2
    show L_X11_search_34 lv (nI k) (nI d) (nI n) (nI sp) K post (1 + F) (nI p) τ
    rw [Nat.add_comm 1 F]
    unfold L_X11_search_34
    refine br_f (nI_pos (by omega)) ⟨p, rfl, p30, bn_f (by rw [h71]; rfl) (fun v30 h30 => ?_)⟩
    rw [h30]
    exact hP0 rfl τ hR (fun q hq => rfl)
  | succ m ih =>
    intro g tr τ F hm ht hR h71 hP0 hP1 hP2
    have n71 : ¬ q_i τ 71 p = 10 := by
      rw [h71]
      exact fun y => absurd ((nI_eq (b := 10) (by omega) (by decide)).mp y) (by omega)
    by_cases q : 4000 ≤ tr
    · have e : tryV (stP op ms lc (lo < k) lo n d sp) nxt p (m + 1) g tr = (2, g, tr) := by unfold tryV; rw [if_pos q]
      have ec : cV (stP op ms lc (lo < k) lo n d sp) nxt cn p (m + 1) g tr = 1 := by unfold cV; rw [if_pos q]
      rw [e] at hP2
      rw [ec, Nat.add_comm 1 F]
      unfold L_X11_search_34
      refine br_f (nI_pos (by omega)) ⟨p, rfl, p30, bn_t n71 (bn_f ?_ (hP2 rfl τ (hR.mono (by omega))))⟩
      rw [hR.1.2.2.2, show tr = 4000 by omega]; rfl
    · have e : tryV (stP op ms lc (lo < k) lo n d sp) nxt p (m + 1) g tr = (fun r : Out => if r.1 = 0 then tryV (stP op ms lc (lo < k) lo n d sp) nxt p m r.2.1 r.2.2 else r) (cif (stP op ms lc (lo < k) lo n d sp (updN g p (9 - m)) p) (nxt (updN g p (9 - m)) (tr + 1)) (0, updN g p (9 - m), tr + 1)) := by
        conv => lhs; unfold tryV
        rw [if_neg q]
      have ec : cV (stP op ms lc (lo < k) lo n d sp) nxt cn p (m + 1) g tr = cif (stP op ms lc (lo < k) lo n d sp (updN g p (9 - m)) p) (cn (updN g p (9 - m)) (tr + 1) + (if (nxt (updN g p (9 - m)) (tr + 1)).1 = 0 then cV (stP op ms lc (lo < k) lo n d sp) nxt cn p m (nxt (updN g p (9 - m)) (tr + 1)).2.1 (nxt (updN g p (9 - m)) (tr + 1)).2.2 else 0) + 1) (cV (stP op ms lc (lo < k) lo n d sp) nxt cn p m (updN g p (9 - m)) (tr + 1) + 1) := by
        conv => lhs; unfold cV
        rw [if_neg q]
      rw [e] at hP0 hP1 hP2
      rw [ec]
      -- the step up to stands
      have pre : ∀ F', (∀ τ14 : kT, RRel τ0 τ14 k n lo lc (p + 1) (updN g p (9 - m)) (tr + 1) → q_i τ14 71 p = nI (10 - m) → (∀ q, q < p → q_i τ14 71 q = q_i τ 71 q) → (stP op ms lc (lo < k) lo n d sp (updN g p (9 - m)) p → (((nI p + (1 : Int32)) < ((q_i τ14 66 14) * nI n) → (∀ v19 : Int32, v19 = nI p + (1 : Int32) → ((¬ v19 = ((q_i τ14 66 14) * nI n) → (∃ j21 : Nat, v19 = nI j21 ∧ j21 < 30 ∧ (∀ τ22 : kT, τ22 = q_si τ14 71 j21 (0 : Int32) → L_X11_search_34 lv (nI k) (nI d) (nI n) (nI sp) K post F' v19 τ22))) ∧ (v19 = ((q_i τ14 66 14) * nI n) → post (1 : Int32) τ14)))) ∧ (¬ (nI p + (1 : Int32)) < ((q_i τ14 66 14) * nI n) → (T_X11_areNeversMet (nI k) (nI d) (nI n) τ14 (fun r23 τ24 => ((r23 = 0 → L_X11_search_34 lv (nI k) (nI d) (nI n) (nI sp) K post F' (nI p) τ24) ∧ (¬ r23 = 0 → (∀ v26 : Int32, v26 = nI p + (1 : Int32) → ((¬ v26 = ((q_i τ24 66 14) * nI n) → (∃ j28 : Nat, v26 = nI j28 ∧ j28 < 30 ∧ (∀ τ29 : kT, τ29 = q_si τ24 71 j28 (0 : Int32) → L_X11_search_34 lv (nI k) (nI d) (nI n) (nI sp) K post F' v26 τ29))) ∧ (v26 = ((q_i τ24 66 14) * nI n) → post (1 : Int32) τ24)))))))))) ∧ (¬ stP op ms lc (lo < k) lo n d sp (updN g p (9 - m)) p → L_X11_search_34 lv (nI k) (nI d) (nI n) (nI sp) K post F' (nI p) τ14)) → L_X11_search_34 lv (nI k) (nI d) (nI n) (nI sp) K post (F' + 1) (nI p) τ := by
        intro F' hh
        unfold L_X11_search_34
        refine br_f (nI_pos (by omega)) ⟨p, rfl, p30, bn_t n71 ?_⟩
        rw [hR.1.2.2.2]
        refine bn_t (fun y => q (by have := (nI_eq (b := 4000) (by omega) (by decide)).mp y; omega)) (fun τ7 h7 => ⟨nz, p / n, nI_div z3 (by omega) (by omega), p6, nz, p, rfl, p30, ?_⟩)
        have h7 : τ7 = q_si τ 66 10 (nI (tr + 1)) := by rw [h7]; exact congrArg (q_si τ 66 10) (nI_1 tr)
        have e72 : q_i τ7 72 (p / n) = nI (key lo (p / n)) := by
          rw [h7, q_i_si, if_neg (by decide), hR.1.1 72 (by decide) (by decide) (by decide) (by decide)]; exact a2 _ tT
        refine ⟨ix n lo p, by rw [e72, nI_mod z3 (by omega) (by omega)]; exact ixl 5 (key lo (p / n)) (p % n), ix30, fun τ11 h11 => ⟨p, rfl, p30, p, rfl, p30, fun τ14 h14 => ?_⟩⟩
        have e771 : q_i τ7 71 p = nI (9 - m) := by rw [h7, q_i_si, if_neg (by decide), h71, show 10 - (m + 1) = 9 - m by omega]
        have e1171 : q_i τ11 71 p = nI (9 - m) := by rw [h11, q_i_si, if_neg (by decide)]; exact e771
        rw [e771] at h11
        rw [e1171] at h14
        have h14 : τ14 = q_si τ11 71 p (nI (10 - m)) := by
          rw [h14, show nI (9 - m) + 1 = nI (9 - m + 1) from nI_1 _, show 9 - m + 1 = 10 - m by omega]
        have hR14 : RRel τ0 τ14 k n lo lc (p + 1) (updN g p (9 - m)) (tr + 1) := by
          refine ⟨⟨fun x n1 n2 n3 n4 => ?_, fun x => ?_, fun i hi => ?_, ?_⟩, fun q hq => ?_, fun hl c hc => ?_⟩
          · rw [h14, q_i_si, if_neg n3, h11, q_i_si, if_neg n2, h7, q_i_si, if_neg n1]; exact hR.1.1 x n1 n2 n3 n4
          · rw [h14, h11, h7]; exact hR.1.2.1 x
          · rw [h14, q_i_si, if_neg (by decide), h11, q_i_si, if_neg (by decide), h7, q_i_si, if_pos rfl, upd_ne hi]; exact hR.1.2.2.1 i hi
          · rw [h14, q_i_si, if_neg (by decide), h11, q_i_si, if_neg (by decide), h7, q_i_si, if_pos rfl, upd_eq]
          · rw [h14, q_i_si, if_neg (by decide), h11, q_i_si, if_pos rfl, h7]
            show upd (q_i τ 70) (ix n lo p) (nI (9 - m)) (ix n lo q) = _ ∧ _
            by_cases e : q = p
            · rw [e, upd_eq, updN_eq]; exact ⟨rfl, by omega⟩
            · rw [upd_ne (fun y => e (ix_inj z3 z4 y)), updN_ne e]
              exact hR.2.1 q (by omega)
          · rw [h14, q_i_si, if_neg (by decide), h11, q_i_si, if_pos rfl, h7]
            show upd (q_i τ 70) (ix n lo p) (nI (9 - m)) (5 * lo + c) = _
            rw [upd_ne (fun y => ix_lo z3 z4 (by omega) y.symm)]
            exact hR.2.2 hl c hc
        have h1471 : q_i τ14 71 p = nI (10 - m) := by rw [h14, q_i_si, if_pos rfl, upd_eq]
        have h14q : ∀ q, q < p → q_i τ14 71 q = q_i τ 71 q := fun q hq => by
          rw [h14, q_i_si, if_pos rfl, upd_ne (by omega), h11, h7]; rfl
        obtain ⟨y1, y2⟩ := hh τ14 hR14 h1471 h14q
        exact r_stands hS h0 hlc hp hR14 (fun z => br_f (by decide) (y1 z)) (fun z => br_t rfl (y2 z))
      by_cases z : stP op ms lc (lo < k) lo n d sp (updN g p (9 - m)) p
      · rw [cif_t z] at hP0 hP1 hP2 ⊢
        obtain ⟨x1, x2⟩ := hx (updN g p (9 - m)) (tr + 1) (by omega)
        rw [Nat.add_right_comm]
        refine pre _ (fun τ14 h14 h1471 h14q => ⟨fun _ => ?_, fun w => absurd z w⟩)
        rw [Nat.add_assoc]
        refine hgo (updN g p (9 - m)) (tr + 1) τ14 _ (by omega) h14 (fun o0 τ2 h2 hq2 => ?_) (fun o1 τ2 h2 hm2 => ?_) (fun o2 τ2 h2 => ?_)
        · simp only [o0, if_true] at hP0 hP1 hP2 ⊢
          refine ih _ _ τ2 F (by omega) x1 (h2.mono (by omega)) ?_ (fun u0 τ3 h3 hq3 => hP0 u0 τ3 h3 (fun q hq => ?_)) hP1 hP2
          · rw [hq2 p (by omega)]; exact h1471
          · rw [hq3 q hq, hq2 q (by omega), h14q q hq]
        · have n0 : ¬ (nxt (updN g p (9 - m)) (tr + 1)).1 = 0 := by omega
          simp only [n0, if_false] at hP1
          exact hP1 o1 τ2 h2 hm2
        · have n0 : ¬ (nxt (updN g p (9 - m)) (tr + 1)).1 = 0 := by omega
          simp only [n0, if_false] at hP2
          exact hP2 o2 τ2 h2
      · rw [cif_f z] at hP0 hP1 hP2 ⊢
        simp only [if_true] at hP0 hP1 hP2
        rw [Nat.add_right_comm]
        refine pre _ (fun τ14 h14 h1471 h14q => ⟨fun w => absurd w z, fun _ => ?_⟩)
        exact ih _ _ τ14 F (by omega) (by omega) (h14.mono (by omega)) h1471 (fun u0 τ3 h3 hq3 => hP0 u0 τ3 h3 (fun q hq => by rw [hq3 q hq, h14q q hq])) hP1 hP2
theorem r_tryP {τ0 : kT} {k d n sp lo T : Nat} {lv : Int32} {op nv : Nat → Nat → Bool} {bl : Nat → Bool} {ms cy lc : Nat → Nat} {hh : Nat → Nat → Nat} (hS : Sz k d n sp lo T lv) (h0 : R0 τ0 k d n lo T op nv bl ms cy hh) (hlc : ∀ c, c < n → lc c ≤ 9) {K : Int32 → kT → Prop} {post : Int32 → kT → Prop}
    (hx : ∀ r, r ≤ T * n → ∀ g tr, tr ≤ 4000 → (tryP (stP op ms lc (lo < k) lo n d sp) (nmP op nv hh bl lc lo n T k d) (T * n) r g tr).2.2 ≤ 4000 ∧ ((tryP (stP op ms lc (lo < k) lo n d sp) (nmP op nv hh bl lc lo n T k d) (T * n) r g tr).1 = 0 ∨ (tryP (stP op ms lc (lo < k) lo n d sp) (nmP op nv hh bl lc lo n T k d) (T * n) r g tr).1 = 1 ∨ (tryP (stP op ms lc (lo < k) lo n d sp) (nmP op nv hh bl lc lo n T k d) (T * n) r g tr).1 = 2)) : ∀ r p g tr τ F, p + (r + 1) = T * n → tr ≤ 4000 → RRel τ0 τ k n lo lc p g tr → q_i τ 71 p = 0 →
      ∀ o, o = tryP (stP op ms lc (lo < k) lo n d sp) (nmP op nv hh bl lc lo n T k d) (T * n) (r + 1) g tr →
      (o.1 = 0 → ∀ τ2, RRel τ0 τ2 k n lo lc p o.2.1 o.2.2 → (∀ q, q < p → q_i τ2 71 q = q_i τ 71 q) → L_X11_search_34 lv (nI k) (nI d) (nI n) (nI sp) K post F (nI p + (-1 : Int32)) τ2) →
      (o.1 = 1 → ∀ τ2, RRel τ0 τ2 k n lo lc (T * n) o.2.1 o.2.2 → mask τ2 op hh lo n T d o.2.1 → post 1 τ2) →
      (o.1 = 2 → ∀ τ2, RRel τ0 τ2 k n lo lc 0 o.2.1 o.2.2 → post (-5) τ2) →
      L_X11_search_34 lv (nI k) (nI d) (nI n) (nI sp) K post (cP (stP op ms lc (lo < k) lo n d sp) (nmP op nv hh bl lc lo n T k d) (T * n) (r + 1) g tr + F) (nI p) τ := by
  obtain ⟨z1, z2, z3, z4, z5, z6, z7, -⟩ := id hS
  obtain ⟨a1, a2, -⟩ := id h0
  have M30 : T * n ≤ 6 * 5 := Nat.mul_le_mul z6 z4
  have eM : ∀ {τ : kT} {p tr : Nat} {g : Nat → Nat}, RRel τ0 τ k n lo lc p g tr → q_i τ 66 14 * nI n = nI (T * n) := fun hR => by
    rw [hR.1.2.2.1 14 (by decide), a1]; exact pk_mul T n
  intro r
  induction r with
  | zero =>
    intro p g tr τ F hpr ht hR h71 o ho hP0 hP1 hP2
    have hp : p < T * n := by omega
    have eT : tryP (stP op ms lc (lo < k) lo n d sp) (nmP op nv hh bl lc lo n T k d) (T * n) (0 + 1) g tr = tryV (stP op ms lc (lo < k) lo n d sp) (tryP (stP op ms lc (lo < k) lo n d sp) (nmP op nv hh bl lc lo n T k d) (T * n) 0) p 10 g tr := by
      conv => lhs; unfold tryP
      rw [show T * n - (0 + 1) = p by omega]
    have eC : cP (stP op ms lc (lo < k) lo n d sp) (nmP op nv hh bl lc lo n T k d) (T * n) (0 + 1) g tr = cV (stP op ms lc (lo < k) lo n d sp) (tryP (stP op ms lc (lo < k) lo n d sp) (nmP op nv hh bl lc lo n T k d) (T * n) 0) (cP (stP op ms lc (lo < k) lo n d sp) (nmP op nv hh bl lc lo n T k d) (T * n) 0) p 10 g tr := by
      conv => lhs; unfold cP
      rw [show T * n - (0 + 1) = p by omega]
    rw [eT] at ho
    subst ho
    rw [eC]
    refine r_tryV hS h0 hlc hp (hx 0 (by omega)) (fun g2 tr2 τ2 F2 h2 hR2 q0 q1 q2 => ?_) 10 g tr τ F (by omega) ht hR (by rw [h71]; rfl) hP0 hP1 hP2
    have pe : p + 1 = T * n := by omega
    rw [eM hR2, show nI p + 1 = nI (p + 1) from nI_1 p]
    refine br_f (by rw [pe]; exact nI_nlt (Nat.le_refl _) (by omega)) ?_
    rw [pe] at hR2
    refine r_never hS h0 hlc hR2 (fun τ3 h3 hm3 h713 => ⟨fun y => br_f (by decide) (fun v26 h26 => ?_), fun y => br_t rfl ?_⟩)
    · rw [eM h3, h26, pe]
      exact bn_f rfl (q1 (cif_t y) τ3 h3 hm3)
    · have : cP (stP op ms lc (lo < k) lo n d sp) (nmP op nv hh bl lc lo n T k d) (T * n) 0 g2 tr2 + F2 = F2 := by
        unfold cP
        exact Nat.zero_add _
      rw [this]
      exact q0 (cif_f y) τ3 (by rw [pe]; exact h3) (fun q hq => by rw [h713])
  | succ r ih =>
    intro p g tr τ F hpr ht hR h71 o ho hP0 hP1 hP2
    have hp : p < T * n := by omega
    have eT : tryP (stP op ms lc (lo < k) lo n d sp) (nmP op nv hh bl lc lo n T k d) (T * n) (r + 1 + 1) g tr = tryV (stP op ms lc (lo < k) lo n d sp) (tryP (stP op ms lc (lo < k) lo n d sp) (nmP op nv hh bl lc lo n T k d) (T * n) (r + 1)) p 10 g tr := by
      conv => lhs; unfold tryP
      rw [show T * n - (r + 1 + 1) = p by omega]
    have eC : cP (stP op ms lc (lo < k) lo n d sp) (nmP op nv hh bl lc lo n T k d) (T * n) (r + 1 + 1) g tr = cV (stP op ms lc (lo < k) lo n d sp) (tryP (stP op ms lc (lo < k) lo n d sp) (nmP op nv hh bl lc lo n T k d) (T * n) (r + 1)) (cP (stP op ms lc (lo < k) lo n d sp) (nmP op nv hh bl lc lo n T k d) (T * n) (r + 1)) p 10 g tr := by
      conv => lhs; unfold cP
      rw [show T * n - (r + 1 + 1) = p by omega]
    rw [eT] at ho
    subst ho
    rw [eC]
    refine r_tryV hS h0 hlc hp (hx (r + 1) (by omega)) (fun g2 tr2 τ2 F2 h2 hR2 q0 q1 q2 => ?_) 10 g tr τ F (by omega) ht hR (by rw [h71]; rfl) hP0 hP1 hP2
    rw [eM hR2, show nI p + 1 = nI (p + 1) from nI_1 p]
    refine br_t (nI_lt (by omega) (by omega)) (fun v19 h19 => ?_)
    subst h19
    refine bn_t (fun y => absurd ((nI_eq (by omega) (by omega)).mp y) (by omega)) ⟨p + 1, rfl, by omega, fun τ22 h22 => ?_⟩
    subst h22
    have hR3 : RRel τ0 (q_si τ2 71 (p + 1) 0) k n lo lc (p + 1) g2 tr2 := by
      obtain ⟨⟨u1, u2, u3, u4⟩, u5, u6⟩ := hR2
      exact ⟨⟨fun x n1 n2 n3 n4 => by rw [q_i_si, if_neg n3]; exact u1 x n1 n2 n3 n4, u2, u3, u4⟩, u5, u6⟩
    refine ih (p + 1) g2 tr2 _ F2 (by omega) h2 hR3 (by rw [q_i_si, if_pos rfl, upd_eq]) _ rfl (fun o0 τ3 h3 hq3 => ?_) q1 q2
    have em : nI (p + 1) + (-1 : Int32) = nI p := by
      rw [show nI (p + 1) + (-1 : Int32) = nI (p + 1) - 1 by rw [Int32.sub_eq_add_neg], i_eq, i_m1 (by omega), nI_toInt (by omega)]; omega
    rw [em]
    refine q0 o0 τ3 h3 (fun q hq => ?_)
    rw [hq3 q hq, q_i_si, if_pos rfl, upd_ne (by omega)]
