/-! ===== making cells ===== -/
def k_new (σ : kS) (n : Nat) : kS := k_wi (k_wr σ n (fun _ => none)) n (fun _ => 0)
theorem k_W_grow {ad : Nat → Nat} {cA : Nat → ClassId} {n : Nat} {σ σ' : kS} (ho : ∀ j, j ≠ n → k_ce ad cA σ' j = k_ce ad cA σ j) {e : va_E} (he : k_ce ad cA σ' n = e) : k_W ad cA n σ ++ [(ad n, e)] = k_W ad cA (n + 1) σ' := by
  subst he
  unfold k_W
  rw [List.range_succ, List.map_append]
  congr 1
  apply List.map_congr_left
  intro i hi
  rw [ho i (by have := List.mem_range.mp hi; omega)]
def k_N (own : String) (idx ci : Nat) (ks : List Nat) : Prop := ∃ (C : String) (T : u_T) (ty0 : Nat → FieldType), vwCl[ci]? = some (C, T, ks.length) ∧ (∀ w ∈ u_ws C T ks.length, w ∈ lw_g) ∧ (∀ k, k < ks.length → parseFieldDescriptor (T k).2.2.1 = some (ty0 k)) ∧ Cond.classLink own idx C ∈ lw_g ∧ Cond.instantiable C ks.length ∈ lw_g ∧ Cond.initialized C ∈ lw_g ∧ ∀ j, j < ks.length → defaultValue (ty0 j) = if ks.getD j 0 = 2 then .null else .int 0
section kA
variable {y : MethodName} {cc : ByteArray} {mx : Nat} {ret : Option FieldType} {d : Nat} {E : kE} {pc : Nat} {ls : List (Option Value)} {st : List Value} {σ : kS} {post : Option Value → kS → Prop}
theorem k_born {D : va_G} {z : Nat} {ad : Nat → Nat} {cA : Nat → ClassId} {H H1 H0 : Heap} {locs : List Loc} {n : Nat} {σ σ' : kS} {e : va_E} (hP : va_P D vwCl (k_W ad cA n σ) H) (hD : va_D (k_A z) (k_W ad cA n σ)) (hS : va_S (k_A z) H0 H locs) (hz : z ≤ H0.size) (hs : H.size = z + n) (had : ad n = z + n) (z1 : H1.size = H.size + 1) (o1 : ∀ q, q < H.size → H1[q]? = H[q]?) (hat : va_at D vwCl (H.size, e) H1) (ho : ∀ j, j ≠ n → k_ce ad cA σ' j = k_ce ad cA σ j) (he : k_ce ad cA σ' n = e) {al : Prop} : k_World D z ad cA (n + 1) al σ' H1 ∧ va_S (k_A z) H0 H1 locs := by
  have hk : ∀ (k : Nat) (x : Nat × va_E), (k_W ad cA n σ)[k]? = some x → H1[x.1]? = H[x.1]? := fun k x hx => o1 x.1 ((hP k x hx).lt)
  have hP1 : va_P D vwCl (k_W ad cA n σ ++ [(H.size, e)]) H1 := (hP.kept hk).app (fun k x hx => by
    have hz : k < 1 := (List.getElem?_eq_some_iff.mp hx).1
    rw [show k = 0 by omega] at hx
    cases hx
    exact hat)
  have hD1 : va_D (k_A z) (k_W ad cA n σ ++ [(H.size, e)]) := hD.push hP rfl (by show z ≤ H.size; omega)
  rw [hs, ← had, k_W_grow ho he] at hP1 hD1
  exact ⟨⟨hP1, hD1, fun _ => by omega⟩, by have := hS.1; omega, fun x h1 h2 => (o1 x (Nat.lt_of_lt_of_le h1 hS.1)).trans (hS.2.1 x h1 h2), hS.2.2⟩
theorem v_new {idx ci n nf b : Nat} {al alr : Prop} {X : Nat × (Nat → Int32)} {ks : List Nat} (hN : k_N y.cls idx ci ks) (hd : decode cc pc = .ok (.new idx, 3)) (hsh : k_sh n = (0, ci, ks)) (hal : al) (hlt : n < nf ∧ n < 200) (hb : ks.length ≤ b)
    (kk : V y cc mx ret d (n + 1, nf, b - ks.length, al, alr, X) (pc + 3) ls (.ref n :: st) (k_new σ n) post) : V y cc mx ret d (n, nf, b, al, alr, X) pc ls st σ post := by
  refine ⟨@fun p l e R s m args below meth c H locs cells slots mc ms Q D z ad cA C w hS hR L hL => ?_, trivial⟩
  obtain ⟨c1, c2, c3, c4, c5, hts, hNw, hK, hz, had, hsc, hfr, hlo, hce, hsl, hmc, hms⟩ := id C
  dsimp only at hce hsl had
  obtain ⟨C0, T, ty0, hc, hin, hty, hcl, hins, hini, hdf⟩ := hN
  have hs : H.size = z + n := w.2.2 hal
  have had1 : ad n = z + n := had hal n hlt.2
  have hKn := hK.1 ci _ hc
  refine W.newcK c1 c2 c4 (hts _ hcl) (hts _ hins) (hts _ hini) rfl hd (by omega) (by omega) hKn.2.1 rfl fun H1 kC hkC e1 z1 o1 => ?_
  have hat : va_at D vwCl (H.size, .inr (ci, (List.range ks.length).map (fun k => k_fv ad (k_new σ n) n k (ks.getD k 0)))) H1 := by
    refine ⟨_, hc, (u_born ty0 hts hin hKn hkC e1 hty).to (fun j hj => ?_)⟩
    have hj' : j < ks.length := hj
    rw [hdf j hj']
    have e0 : vp_V ((List.range ks.length).map (fun k => k_fv ad (k_new σ n) n k (ks.getD k 0))) j = k_fv ad (k_new σ n) n j (ks.getD j 0) := by
      unfold vp_V
      rw [List.getD_eq_getElem?_getD (l := (List.range ks.length).map _), List.getElem?_map, List.getElem?_range hj']
      rfl
    refine Eq.trans ?_ e0.symm
    by_cases h2 : ks.getD j 0 = 2
    · simp only [k_fv, h2, if_true, k_new, k_ri, k_rr]
      rfl
    · simp only [k_fv, h2, if_false, k_new, k_ii]
  obtain ⟨w1, hS1⟩ := k_born (σ' := k_new σ n) (al := al) w.1 w.2.1 hS hz hs had1 z1 o1 hat (fun j hj => by rw [k_new, k_ce_wi j hj, k_ce_wr j hj]) (k_obj hsh)
  have e9 : (Value.ref H.size :: st.map (k_v ad)) = ((.ref n :: st).map (k_v ad)) := by simp [k_v, had1, hs]
  rw [e9]
  exact kk.1 ⟨c1, c2, c3, c4, c5, hts, hNw, hK, hz, had, hsc, hfr, hlo, by show cells + 1 + nf ≤ mc + (n + 1); omega, by show slots + ks.length + (b - ks.length) ≤ ms; omega, hmc, hms⟩ w1 hS1 hR L hL
theorem v_newi {n nf b N : Nat} {i : Int32} {al alr : Prop} {X : Nat × (Nat → Int32)} (hw : Cond.arrayClass .int ∈ lw_g) (hd : decode cc pc = .ok (.newarray .int, 2)) (hsh : k_sh n = (1, N, [])) (hi : i = nI N) (hN : N < 2 ^ 26) (hal : al) (hlt : n < nf ∧ n < 200) (hb : N ≤ b)
    (kk : V y cc mx ret d (n + 1, nf, b - N, al, alr, X) (pc + 2) ls (.ref n :: st) (k_wi σ n (fun _ => 0)) post) : V y cc mx ret d (n, nf, b, al, alr, X) pc ls (.int i :: st) σ post := by
  refine ⟨@fun p l e R s m args below meth c H locs cells slots mc ms Q D z ad cA C w hS hR L hL => ?_, trivial⟩
  obtain ⟨c1, c2, c3, c4, c5, hts, hNw, hK, hz, had, hsc, hfr, hlo, hce, hsl, hmc, hms⟩ := id C
  dsimp only at hce hsl had
  subst hi
  have hs : H.size = z + n := w.2.2 hal
  have had1 : ad n = z + n := had hal n hlt.2
  refine va_newaK (atype := .int) c1 c2 (hts _ hw) rfl hd rfl (nI_pos (by omega)) (nI_clamp (by omega)) (by show N * 4 ≤ _; omega) (by omega) (by omega) rfl fun H1 cA1 e1 z1 o1 hAr hNm => ?_
  have hcA : cA1 = cA 0 := Option.some.inj (hNm.symm.trans (hK.2 0 (cA 0, .int) rfl).2)
  subst hcA
  obtain ⟨w1, hS1⟩ := k_born (σ' := k_wi σ n (fun _ => 0)) (e := .inl (cA 0, N, .inl (fun _ => 0))) (al := al) w.1 w.2.1 hS hz hs had1 z1 o1 (by show H1[H.size]? = _; rw [e1]; rfl) (fun j hj => k_ce_wi j hj) (by rw [k_arI hsh, k_ii])
  have e9 : (Value.ref H.size :: st.map (k_v ad)) = ((.ref n :: st).map (k_v ad)) := by simp [k_v, had1, hs]
  show W p l e R s m args below meth c H1 locs (cells + 1) (slots + N) Q (F0 m (pc + 2) L (Value.ref H.size :: st.map (k_v ad)))
  rw [e9]
  exact kk.1 ⟨c1, c2, c3, c4, c5, hts, hNw, hK, hz, had, hsc, hfr, hlo, by show cells + 1 + nf ≤ mc + (n + 1); omega, by show slots + N + (b - N) ≤ ms; omega, hmc, hms⟩ w1 hS1 hR L hL
theorem v_newl {n nf b N : Nat} {i : Int32} {al alr : Prop} {X : Nat × (Nat → Int32)} (hw : Cond.arrayClass .long ∈ lw_g) (hd : decode cc pc = .ok (.newarray .long, 2)) (hsh : k_sh n = (2, N, [])) (hi : i = nI N) (hN : N < 2 ^ 26) (hal : al) (hlt : n < nf ∧ n < 200) (hb : N ≤ b)
    (kk : V y cc mx ret d (n + 1, nf, b - N, al, alr, X) (pc + 2) ls (.ref n :: st) (k_wl σ n (fun _ => 0)) post) : V y cc mx ret d (n, nf, b, al, alr, X) pc ls (.int i :: st) σ post := by
  refine ⟨@fun p l e R s m args below meth c H locs cells slots mc ms Q D z ad cA C w hS hR L hL => ?_, trivial⟩
  obtain ⟨c1, c2, c3, c4, c5, hts, hNw, hK, hz, had, hsc, hfr, hlo, hce, hsl, hmc, hms⟩ := id C
  dsimp only at hce hsl had
  subst hi
  have hs : H.size = z + n := w.2.2 hal
  have had1 : ad n = z + n := had hal n hlt.2
  refine va_newaK (atype := .long) c1 c2 (hts _ hw) rfl hd rfl (nI_pos (by omega)) (nI_clamp (by omega)) (by show N * 8 ≤ _; omega) (by omega) (by omega) rfl fun H1 cA1 e1 z1 o1 hAr hNm => ?_
  have hcA : cA1 = cA 1 := Option.some.inj (hNm.symm.trans (hK.2 1 (cA 1, .long) rfl).2)
  subst hcA
  obtain ⟨w1, hS1⟩ := k_born (σ' := k_wl σ n (fun _ => 0)) (e := .inl (cA 1, N, .inr (.inl (fun _ => 0)))) (al := al) w.1 w.2.1 hS hz hs had1 z1 o1 (by show H1[H.size]? = _; rw [e1]; rfl) (fun j hj => k_ce_wl j hj) (by rw [k_arL hsh, k_ll])
  have e9 : (Value.ref H.size :: st.map (k_v ad)) = ((.ref n :: st).map (k_v ad)) := by simp [k_v, had1, hs]
  show W p l e R s m args below meth c H1 locs (cells + 1) (slots + N) Q (F0 m (pc + 2) L (Value.ref H.size :: st.map (k_v ad)))
  rw [e9]
  exact kk.1 ⟨c1, c2, c3, c4, c5, hts, hNw, hK, hz, had, hsc, hfr, hlo, by show cells + 1 + nf ≤ mc + (n + 1); omega, by show slots + N + (b - N) ≤ ms; omega, hmc, hms⟩ w1 hS1 hR L hL
theorem v_obj {idx x : Nat} (hlk : Cond.methodLink y.cls idx objectInit ∈ lw_g) (hI : Cond.instanceMethod objectInit ∈ lw_g) (hc : Cond.code objectInit ⟨#[0xb1]⟩ 1 none ∈ lw_g) (hd : decode cc pc = .ok (.invokespecial idx, 3)) (h8 : (st.map fun v => v.category).sum ≤ 8) (kk : V y cc mx ret (d + 1) E (pc + 3) ls st σ post) : V y cc mx ret (d + 1) E pc ls (.ref x :: st) σ post := by
  refine ⟨fun C w hS hR L hL => ?_, trivial⟩
  obtain ⟨c1, c2, c3, c4, c5, hts, hNw, hK, hz, had, hsc, hfr, hlo, hce, hsl, hmc, hms⟩ := id C
  exact W.objInit c1 c2 c4 (hts _ hlk) (hts _ hI) (hts _ hc) rfl (hL.1.trans c3.symm) rfl hd (by omega) (by rw [k_sum]; show 2 * 0 + _ + 12 ≤ _; omega) (kk.1 C w hS hR L hL)
theorem v_callIN {y2 : MethodName} {cc2 : ByteArray} {mx2 idx x n nf b nf2 b2 : Nat} {al alr : Prop} {X : Nat × (Nat → Int32)} {host : String} (hM : k_M y2 cc2 mx2 none 0) (hI : Cond.instanceMethod y2 ∈ lw_g) (hnm : y2.name = "<init>") (hlk : Cond.methodLinkNest y.cls idx y2 host ∈ lw_tbl) (hd : decode cc pc = .ok (.invokespecial idx, 3)) (hal : al) (h8 : (st.map fun v => v.category).sum ≤ 8) (hln : 1 ≤ mx2) (hnf : n ≤ nf2 ∧ nf2 ≤ nf ∧ b2 ≤ b)
    (hV : V y2 cc2 mx2 none d (n, nf2, b2, True, True, 0, fun _ => 0) 0 (k_en0 [.ref x] mx2) [] σ (fun v σ' => V y cc mx ret (d + 1) (nf2, nf, b - b2, al, alr, X) (pc + 3) ls (v.toList ++ st) σ' post)) : V y cc mx ret (d + 1) (n, nf, b, al, alr, X) pc ls (.ref x :: st) σ post := by
  refine ⟨@fun p l e R s m args below meth c H locs cells slots mc ms Q D z ad cA C w hS hR L hL => ?_, trivial⟩
  obtain ⟨c1, c2, c3, c4, c5, hts, hN, hK, hz, had, hsc, hfr, hlo, hce, hsl, hmc, hms⟩ := id C
  dsimp only at hce hsl had
  obtain ⟨hcode, hini, hdesc, hpl, hmx⟩ := hM
  have hw0 : k_World D z ad cA n True σ H := ⟨w.1, w.2.1, fun _ => w.2.2 hal⟩
  have hcB := va_cnB (R := R) (s := s) (args := args) (own := y.cls) (host := host) (index := idx) (maxL := mx2) (mc := nf2 - n) (ms := b2) (y := y2) (bytes := cc2) (ret := none) (Ts := lw_g) (ws := .code y2 cc2 mx2 none :: lw_g) (rm := { frames := d, cells := nf2 - n, slots := b2, locals := 40 * d }) 0 hts (k_good hcode) rfl rfl rfl (hN.1 _ hlk rfl) (hts _ hini) hdesc ⟨hfr, by show 8 + (mx2 + 11) + 40 * d ≤ R.locals; omega⟩
  have hrun := va_runIN (As := []) (rest := st.map (k_v ad)) (b := ad x) (g := F0 m pc L ((.ref x :: st).map (k_v ad))) (cells := cells) (slots := slots) (locs := locs) (H := H) (l := l) (e := e) (below := below) (meth := meth) ⟨c1, c2, c3, c4, hts⟩ (k_met (E := (n, nf2, b2, True, True, 0, fun _ => 0)) (As := [.ref x]) l hpl hln D z ad cA (fun _ => had hal) rfl hnf.1 hV) ⟨hcB, hnm, hts _ hI⟩ ⟨k_blind, fun U hU hW => ⟨rfl, by rw [hU]; exact hw0, va_K.moved hW.alike hK, hN.warm hW, by rw [hU]; exact Nat.le_trans hz hS.1⟩⟩ rfl rfl (hL.1) (by simp [k_v]) (lv_room (by rw [k_sum]; exact h8)) hd ⟨by show cells + (nf2 - n) ≤ R.cells; omega, by show slots + b2 ≤ R.slots; omega⟩
  refine k_cont hrun hS (fun v σ' H1 locs1 hp hw1 hS1 => ?_)
  rw [k_tl]
  exact hp.1 ⟨c1, c2, c3, c4, c5, hts, hN, hK, hz, had, hsc, hfr, hlo, by show cells + (nf2 - n) + nf ≤ mc + nf2; omega, by show slots + b2 + (b - b2) ≤ ms; omega, hmc, hms⟩ ⟨hw1.1, hw1.2.1, fun _ => hw1.2.2 trivial⟩ hS1 hR L hL
theorem v_callI {y2 : MethodName} {cc2 : ByteArray} {mx2 idx x n nf b nf2 b2 : Nat} {al alr : Prop} {X : Nat × (Nat → Int32)} (hM : k_M y2 cc2 mx2 none 0) (hI : Cond.instanceMethod y2 ∈ lw_g) (hnm : y2.name = "<init>") (hlk : Cond.methodLink y.cls idx y2 ∈ lw_g) (hd : decode cc pc = .ok (.invokespecial idx, 3)) (hal : al) (h8 : (st.map fun v => v.category).sum ≤ 8) (hln : 1 ≤ mx2) (hnf : n ≤ nf2 ∧ nf2 ≤ nf ∧ b2 ≤ b)
    (hV : V y2 cc2 mx2 none d (n, nf2, b2, True, True, 0, fun _ => 0) 0 (k_en0 [.ref x] mx2) [] σ (fun v σ' => V y cc mx ret (d + 1) (nf2, nf, b - b2, al, alr, X) (pc + 3) ls (v.toList ++ st) σ' post)) : V y cc mx ret (d + 1) (n, nf, b, al, alr, X) pc ls (.ref x :: st) σ post := by
  refine ⟨@fun p l e R s m args below meth c H locs cells slots mc ms Q D z ad cA C w hS hR L hL => ?_, trivial⟩
  obtain ⟨c1, c2, c3, c4, c5, hts, hN, hK, hz, had, hsc, hfr, hlo, hce, hsl, hmc, hms⟩ := id C
  dsimp only at hce hsl had
  obtain ⟨hcode, hini, hdesc, hpl, hmx⟩ := hM
  have hw0 : k_World D z ad cA n True σ H := ⟨w.1, w.2.1, fun _ => w.2.2 hal⟩
  have hcB : CallB R s args y.cls idx y2 cc2 mx2 none (.code y2 cc2 mx2 none :: lw_g) { frames := d, cells := nf2 - n, slots := b2, locals := 40 * d } (nf2 - n) b2 0 := callB_of 0 hts (k_good hcode) rfl rfl rfl (hts _ hini) (hts _ hlk) hdesc ⟨hfr, by show 8 + (mx2 + 11) + 40 * d ≤ R.locals; omega⟩
  have hrun := va_runI (As := []) (rest := st.map (k_v ad)) (b := ad x) (g := F0 m pc L ((.ref x :: st).map (k_v ad))) (cells := cells) (slots := slots) (locs := locs) (H := H) (l := l) (e := e) (below := below) (meth := meth) ⟨c1, c2, c3, c4, hts⟩ (k_met (E := (n, nf2, b2, True, True, 0, fun _ => 0)) (As := [.ref x]) l hpl hln D z ad cA (fun _ => had hal) rfl hnf.1 hV) ⟨hcB, hnm, hts _ hI⟩ ⟨k_blind, fun U hU hW => ⟨rfl, by rw [hU]; exact hw0, va_K.moved hW.alike hK, hN.warm hW, by rw [hU]; exact Nat.le_trans hz hS.1⟩⟩ rfl rfl (hL.1) (by simp [k_v]) (lv_room (by rw [k_sum]; exact h8)) hd ⟨by show cells + (nf2 - n) ≤ R.cells; omega, by show slots + b2 ≤ R.slots; omega⟩
  refine k_cont hrun hS (fun v σ' H1 locs1 hp hw1 hS1 => ?_)
  rw [k_tl]
  exact hp.1 ⟨c1, c2, c3, c4, c5, hts, hN, hK, hz, had, hsc, hfr, hlo, by show cells + (nf2 - n) + nf ≤ mc + nf2; omega, by show slots + b2 + (b - b2) ≤ ms; omega, hmc, hms⟩ ⟨hw1.1, hw1.2.1, fun _ => hw1.2.2 trivial⟩ hS1 hR L hL
end kA
