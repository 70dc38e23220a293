/-! ===== calls ===== -/
def k_en : List Value → List (Option Value)
  | [] => []
  | .long v :: vs => some (.long v) :: none :: k_en vs
  | .double v :: vs => some (.double v) :: none :: k_en vs
  | v :: vs => some v :: k_en vs
def k_en0 (As : List Value) (mx : Nat) : List (Option Value) := k_en As ++ List.replicate (mx - (k_en As).length) none
theorem k_en_1 {v : Value} (vs : List Value) (h : v.category = 1) : k_en (v :: vs) = some v :: k_en vs := by
  cases v <;> first | rfl | cases h
theorem k_en_2 {v : Value} (vs : List Value) (h : v.category = 2) : k_en (v :: vs) = some v :: none :: k_en vs := by
  cases v <;> first | rfl | cases h
theorem k_en_args : ∀ (As : List Value) (i k : Nat) (w : Value), (k_en As)[k]? = some (some w) → (i + k, w) ∈ lv_args i As
  | [], i, k, w, h => by simp [k_en] at h
  | v :: vs, i, k, w, h => by
    rcases lv_cat v with hc | hc
    · rw [k_en_1 vs hc] at h
      unfold lv_args
      rw [if_neg (by omega)]
      cases k with
      | zero => simp at h; subst h; exact List.mem_cons_self
      | succ k =>
        have := k_en_args vs (i + 1) k w (by simpa using h)
        rw [show i + 1 + k = i + (k + 1) by omega] at this
        exact List.mem_cons_of_mem _ this
    · rw [k_en_2 vs hc] at h
      unfold lv_args
      rw [if_pos hc]
      cases k with
      | zero => simp at h; subst h; exact List.mem_cons_self
      | succ k =>
        cases k with
        | zero => simp at h
        | succ k =>
          have := k_en_args vs (i + 2) k w (by simpa using h)
          rw [show i + 2 + k = i + (k + 1 + 1) by omega] at this
          exact List.mem_cons_of_mem _ this
theorem k_args_map (ad : Nat → Nat) : ∀ (As : List Value) (i : Nat), lv_args i (As.map (k_v ad)) = (lv_args i As).map (fun q => (q.1, k_v ad q.2))
  | [], i => rfl
  | v :: vs, i => by
    simp only [List.map_cons, lv_args, k_v_cat]
    rw [k_args_map ad vs]
theorem k_sl_len (ad : Nat → Nat) (As : List Value) : (lg_sl (As.map (k_v ad))).length = (lg_sl As).length := by
  induction As with
  | nil => rfl
  | cons v vs ih =>
    have e : ∀ (u : Value) (us : List Value), lg_sl (u :: us) = (if u.category = 2 then [.val u, .second] else [.val u]) ++ lg_sl us := fun u us => rfl
    rw [List.map_cons, e, e, List.length_append, List.length_append, ih, k_v_cat]
    by_cases h : v.category = 2 <;> simp [h]
theorem k_isN_on {w : Cond} (h : k_isN w = true) : w.onTables = true := by
  cases w <;> first | rfl | cases h
theorem k_NW.warm {s U : State} (hW : s.WarmedH U.vm) (h : k_NW s) : k_NW U := by
  refine ⟨fun w hw hn => ?_, h.2.moved hW.alike⟩
  have h1 := h.1 w hw hn
  cases w <;> first | exact va_Nw.warmM hW h1 | cases hn
theorem k_NW.same {s U : State} (hv : s.vm = U.vm) (h : k_NW s) : k_NW U := ⟨fun w hw hn => va_Nw.same (k_isN_on hn) hv (h.1 w hw hn), h.2.moved (by rw [hv]; exact Vm.Alike.refl _)⟩
def k_Pc (D : va_G) (z : Nat) (ad : Nat → Nat) (cA : Nat → ClassId) (n : Nat) (al : Prop) (σ : kS) (As : List Value) : Array Value → State → Prop := va_Pc (As.map (k_v ad)) (fun U => k_World D z ad cA n al σ U.heap ∧ va_K D vwCl (k_tys cA) U ∧ k_NW U ∧ z ≤ U.heap.size)
def k_Qc (D : va_G) (z : Nat) (ad : Nat → Nat) (cA : Nat → ClassId) (nf : Nat) (al : Prop) (post : Option Value → kS → Prop) : Array Value → State → Outcome → State → Prop := fun _ st oc t => (∃ (v : Option Value) (σ' : kS), oc = .returned (v.map (k_v ad)) ∧ post v σ' ∧ k_World D z ad cA nf al σ' t.heap) ∧ va_F (k_A z) st t
theorem k_blind {D : va_G} {z : Nat} {ad : Nat → Nat} {cA : Nat → ClassId} {n : Nat} {al : Prop} {σ : kS} {As : List Value} : FrameBlind (k_Pc D z ad cA n al σ As) := by
  intro a U g mk h
  obtain ⟨q0, hw, hK, hN, hz⟩ := h
  exact ⟨q0, hw, va_K.moved (u := U) (U := U.calling g mk a) (Vm.Alike.refl U.vm) hK, k_NW.same (s := U) (U := U.calling g mk a) rfl hN, hz⟩
theorem k_rd_cases {ret : Option FieldType} {cc : ByteArray} {pc : Nat} {v : Option Value} (h : k_rd ret cc pc v) : (ret = none ∧ v = none ∧ decode cc pc = .ok (.return_, 1)) ∨ (ret = some .int ∧ ∃ x, v = some (.int x) ∧ decode cc pc = .ok (.ireturn, 1)) ∨ (ret = some .boolean ∧ ∃ x, v = some (.int x) ∧ decode cc pc = .ok (.ireturn, 1) ∧ narrow .boolean (.int x) = .int x) ∨ (ret = some .long ∧ ∃ x, v = some (.long x) ∧ decode cc pc = .ok (.lreturn, 1)) := by
  unfold k_rd at h
  split at h
  · exact Or.inl ⟨rfl, rfl, h⟩
  · exact Or.inr (Or.inl ⟨rfl, _, rfl, h⟩)
  · exact Or.inr (Or.inr (Or.inl ⟨rfl, _, rfl, h.1, h.2⟩))
  · exact Or.inr (Or.inr (Or.inr ⟨rfl, _, rfl, h⟩))
  · exact h.elim
section kC
variable {y : MethodName} {cc : ByteArray} {mx : Nat} {ret : Option FieldType} {d : Nat} {E : kE} {pc : Nat} {ls : List (Option Value)} {st : List Value} {σ : kS} {post : Option Value → kS → Prop}
theorem k_met (l : Launch) (hpl : plainName y.cls = true) {As : List Value} (hlen : (lg_sl As).length ≤ mx) (D : va_G) (z : Nat) (ad : Nat → Nat) (cA : Nat → ClassId) (had : E.2.2.2.1 → ∀ i, i < 200 → ad i = z + i) (hE : E.2.2.2.2.2.1 = 0) (hle : E.1 ≤ E.2.1) (hV : V y cc mx ret d E 0 (k_en0 As mx) [] σ post) :
    Met l y (.code y cc mx ret :: lw_g) { frames := d, cells := E.2.1 - E.1, slots := E.2.2.1, locals := 40 * d } (k_Pc D z ad cA E.1 E.2.2.2.1 σ As) (k_Qc D z ad cA E.2.1 E.2.2.2.2.1 post) (E.2.1 - E.1) E.2.2.1 (k_A z) := by
  refine Met.ofW (cc := cc) (maxL := mx) (ret := ret) hpl rfl ?_
  intro p e s m args below meth c s₁ B hml hv
  obtain ⟨rfl, hw, hK, hN, hz⟩ := hv
  have hx := B.exec
  have hb := B.bytes
  have hr := B.returns
  have hts := atoms_spec (ws := .code y cc mx ret :: lw_g) B.pre
  have hown : s.vm.findClass y.cls = some m.cls := findClass_of_methodNamed B.named
  have hnm : meth.name = y.name := (name_of_methodNamed B.named B.method).1
  have hlocks := B.notSynchronized
  have hl := lv_entry (As.map (k_v ad)) (n := mx) (by rw [k_sl_len]; exact hlen)
  rw [lg_entry_eq]
  generalize (lg_sl (As.map (k_v ad)) ++ List.replicate (mx - (lg_sl (As.map (k_v ad))).length) Slot.unset).toArray = L at hl ⊢
  have hL : k_L L mx ad (k_en0 As mx) := by
    refine ⟨hl.1, hl.2.1, fun q hq => hl.2.2 q ?_⟩
    obtain ⟨w, h1, h2⟩ := k_as_mem.mp hq
    unfold k_en0 at h1
    by_cases hk : q.1 < (k_en As).length
    · rw [List.getElem?_append_left hk] at h1
      have h3 := k_en_args As 0 q.1 w h1
      rw [k_args_map]
      refine List.mem_map.mpr ⟨_, h3, ?_⟩
      rw [Nat.zero_add, ← h2]
    · rw [List.getElem?_append_right (by omega)] at h1
      have := List.eq_of_mem_replicate (List.mem_of_getElem? h1)
      cases this
  refine @hV.1 p l e _ s m _ below meth c s.heap [] 0 0 (E.2.1 - E.1) E.2.2.1 _ D z ad cA ⟨hx, hb, hml, hown, fun _ => hnm, fun w h => hts w (List.mem_cons_of_mem _ h), hN, hK, hz, had, Or.inl hE, Nat.le_refl _, Nat.le_refl _, ?_, ?_, Nat.le_refl _, Nat.le_refl _⟩ hw va_S.rf ?_ L hL
  · omega
  · omega
  · intro v σ' H' locs' pc' L' hp hw' hS' hrd
    rcases k_rd_cases hrd with ⟨e1, rfl, h3⟩ | ⟨e1, x, rfl, h3⟩ | ⟨e1, x, rfl, h3, h4⟩ | ⟨e1, x, rfl, h3⟩
    · exact W.vret hx hb (hr.trans e1) (fun t ht hW => ⟨⟨none, σ', rfl, hp, by rw [ht]; exact hw'⟩, hS'.F ht⟩) hS'.2.2 h3
    · exact W.iret (v := x) hx hb (hr.trans e1) (fun t ht hW => ⟨⟨some (.int x), σ', rfl, hp, by rw [ht]; exact hw'⟩, hS'.F ht⟩) hS'.2.2 h3
    · exact W.zret (v := x) hx hb (hr.trans e1) h4 (fun t ht hW => ⟨⟨some (.int x), σ', rfl, hp, by rw [ht]; exact hw'⟩, hS'.F ht⟩) hS'.2.2 h3
    · exact W.lret (v := x) hx hb (hr.trans e1) (fun t ht hW => ⟨⟨some (.long x), σ', rfl, hp, by rw [ht]; exact hw'⟩, hS'.F ht⟩) hS'.2.2 h3
theorem k_cont {p : Program} {l : Launch} {e : Env} {R : Room} {s : State} {m : MethodId} {args : Array Value} {below : List Frame} {meth : Method} {c : Code} {H : Heap} {locs : List Loc} {cells slots mc2 ms2 : Nat} {Q : State → Prop} {D : va_G} {z : Nat} {ad : Nat → Nat} {cA : Nat → ClassId} {L : Array Slot} {st0 rest : List Value} {nf2 : Nat} {al2 : Prop} {post2 : Option Value → kS → Prop} {a : Array Value}
    (hr : va_Run p l e R s m args below meth c H locs cells slots mc2 ms2 (F0 m pc L st0) rest (k_Qc D z ad cA nf2 al2 post2 a) (k_A z)) (hS : va_S (k_A z) s.heap H locs)
    (kk : ∀ (v : Option Value) (σ' : kS) (H1 : Heap) (locs1 : List Loc), post2 v σ' → k_World D z ad cA nf2 al2 σ' H1 → va_S (k_A z) s.heap H1 locs1 → W p l e R s m args below meth c H1 locs1 (cells + mc2) (slots + ms2) Q (F0 m (pc + 3) L ((v.map (k_v ad)).toList ++ rest))) : W p l e R s m args below meth c H locs cells slots Q (F0 m pc L st0) := by
  intro T hT X
  obtain ⟨v, st₀, t, T', Lc, h0, X', hLc, e1, e2, ⟨⟨v2, σ', hv, hp, hw⟩, hz, hk⟩, st⟩ := hr T hT X
  have hv2 : v = v2.map (k_v ad) := by cases hv; rfl
  subst hv2
  rw [h0] at hz hk
  obtain ⟨t2, a1, b1⟩ := kk v2 σ' T'.heap (locs ++ Lc) hp (by rw [e1]; exact hw) ⟨by rw [e1]; exact Nat.le_trans hS.1 hz, fun q h1 h2 => by rw [e1, hk q (Nat.lt_of_lt_of_le h1 hS.1) h2]; exact hS.2.1 q h1 h2, fun q hq => (List.mem_append.mp hq).elim (hS.2.2 q) (hLc q)⟩ T' rfl X'
  exact ⟨t2, st t2 a1, b1⟩
theorem k_good {y2 : MethodName} {cc2 : ByteArray} {mx2 : Nat} {ret2 : Option FieldType} (h : Cond.code y2 cc2 mx2 ret2 ∈ lw_g) : GoodIn lw_g (Cond.code y2 cc2 mx2 ret2 :: lw_g) := by
  intro w hw
  have hm : w ∈ lw_g := (List.mem_cons.mp hw).elim (fun e => e ▸ h) id
  exact ⟨hm, good_of_word (List.mem_filter.mp hm).2⟩
theorem k_tl (ad : Nat → Nat) (v : Option Value) (st : List Value) : (v.map (k_v ad)).toList ++ st.map (k_v ad) = (v.toList ++ st).map (k_v ad) := by
  cases v <;> simp
theorem v_callV {y2 : MethodName} {cc2 : ByteArray} {mx2 n2 idx x ci : Nat} {ret2 : Option FieldType} {ks : List Nat} {q : vw_C} {As : List Value} (hM : k_M y2 cc2 mx2 ret2 n2) (hI : k_MV y2) (hlk : Cond.methodLink y.cls idx y2 ∈ lw_g) (hd : decode cc pc = .ok (.invokevirtual idx, 3)) (hsh : k_sh x = (0, ci, ks)) (hcl : vwCl[ci]? = some q) (hq : q.1 = y2.cls) (hx : x < 80) (hE : E.1 = 80 ∧ E.2.1 = 80 ∧ ¬ E.2.2.2.1) (hn : As.length = n2) (h8 : (st.map fun v => v.category).sum ≤ 8) (hln : (lg_sl (.ref x :: As)).length ≤ mx2)
    (hV : V y2 cc2 mx2 ret2 d kE0 0 (k_en0 (.ref x :: As) mx2) [] σ (fun v σ' => V y cc mx ret (d + 1) E (pc + 3) ls (v.toList ++ st) σ' post)) : V y cc mx ret (d + 1) E pc ls (As.reverse ++ .ref x :: st) σ post := by
  refine ⟨@fun p l e R s m args below meth c H locs cells slots mc ms Q D z ad cA C w hS hR L hL => ?_, trivial⟩
  obtain ⟨c1, c2, c3, c4, c5, hts, hN, hK, hz, hal, hsc, hfr, hlo, hce, hsl, hmc, hms⟩ := id C
  obtain ⟨hcode, hini, hdesc, hpl, hmx⟩ := hM
  rw [hE.1] at w
  have hw0 : k_World D z ad cA 80 False σ H := ⟨w.1, w.2.1, fun h => h.elim⟩
  have hrecv := va_recv hK w.1 (a := ad x) (q0 := x) hcl (by rw [k_W_at hx, k_obj hsh])
  rw [hq] at hrecv
  have hcB : CallB R s args y.cls idx y2 cc2 mx2 ret2 (.code y2 cc2 mx2 ret2 :: lw_g) { frames := d, cells := 0, slots := 0, locals := 40 * d } 0 0 n2 := callB_of n2 hts (k_good hcode) rfl rfl rfl (hts _ hini) (hts _ hlk) hdesc ⟨hfr, by show 8 + (mx2 + 11) + 40 * d ≤ R.locals; omega⟩
  have hrun := va_runV (As := As.map (k_v ad)) (rest := st.map (k_v ad)) (b := ad x) (g := F0 m pc L ((As.reverse ++ .ref x :: st).map (k_v ad))) (C := y2.cls) (cells := cells) (slots := slots) (locs := locs) (H := H) (l := l) (e := e) (below := below) (meth := meth) ⟨c1, c2, c3, c4, hts⟩ (k_met (E := kE0) l hpl hln D z ad cA (fun h => h.elim) rfl (Nat.le_refl _) hV) ⟨hcB, hts _ hI.1, hts _ hI.2⟩ ⟨k_blind, hrecv, fun U hU hW => ⟨rfl, by rw [hU]; exact hw0, va_K.moved hW.alike hK, hN.warm hW, by rw [hU]; exact Nat.le_trans hz hS.1⟩⟩ rfl (by simp [hn]) (hL.1) (by simp [k_v]) (lv_room (by rw [k_sum]; exact h8)) hd ⟨by show cells + 0 ≤ R.cells; have := hE.1; have := hE.2.1; omega, by show slots + 0 ≤ R.slots; omega⟩
  refine k_cont hrun hS (fun v σ' H1 locs1 hp hw1 hS1 => ?_)
  rw [k_tl]
  exact hp.1 C (by rw [hE.1]; exact ⟨hw1.1, hw1.2.1, fun h => absurd h hE.2.2⟩) hS1 hR L hL
theorem v_callS {y2 : MethodName} {cc2 : ByteArray} {mx2 n2 idx : Nat} {ret2 : Option FieldType} {As : List Value} (hM : k_M y2 cc2 mx2 ret2 n2) (hI : Cond.static y2 ∈ lw_g) (hlk : Cond.methodLink y.cls idx y2 ∈ lw_g) (hd : decode cc pc = .ok (.invokestatic idx, 3)) (hE : E.1 = 80 ∧ E.2.1 = 80 ∧ ¬ E.2.2.2.1) (hn : As.length = n2) (h8 : (st.map fun v => v.category).sum ≤ 8) (hln : (lg_sl As).length ≤ mx2)
    (hV : V y2 cc2 mx2 ret2 d kE0 0 (k_en0 As mx2) [] σ (fun v σ' => V y cc mx ret (d + 1) E (pc + 3) ls (v.toList ++ st) σ' post)) : V y cc mx ret (d + 1) E pc ls (As.reverse ++ st) σ post := by
  refine ⟨@fun p l e R s m args below meth c H locs cells slots mc ms Q D z ad cA C w hS hR L hL => ?_, trivial⟩
  obtain ⟨c1, c2, c3, c4, c5, hts, hN, hK, hz, hal, hsc, hfr, hlo, hce, hsl, hmc, hms⟩ := id C
  obtain ⟨hcode, hini, hdesc, hpl, hmx⟩ := hM
  rw [hE.1] at w
  have hw0 : k_World D z ad cA 80 False σ H := ⟨w.1, w.2.1, fun h => h.elim⟩
  have hcB : CallB R s args y.cls idx y2 cc2 mx2 ret2 (.code y2 cc2 mx2 ret2 :: lw_g) { frames := d, cells := 0, slots := 0, locals := 40 * d } 0 0 n2 := callB_of n2 hts (k_good hcode) rfl rfl rfl (hts _ hini) (hts _ hlk) hdesc ⟨hfr, by show 8 + (mx2 + 11) + 40 * d ≤ R.locals; omega⟩
  have hrun := va_runS (As := As.map (k_v ad)) (rest := st.map (k_v ad)) (g := F0 m pc L ((As.reverse ++ st).map (k_v ad))) (cells := cells) (slots := slots) (locs := locs) (H := H) (l := l) (e := e) (below := below) (meth := meth) ⟨c1, c2, c3, c4, hts⟩ (k_met (E := kE0) l hpl hln D z ad cA (fun h => h.elim) rfl (Nat.le_refl _) hV) ⟨hcB, hts _ hI⟩ ⟨k_blind, fun U hU hW => ⟨rfl, by rw [hU]; exact hw0, va_K.moved hW.alike hK, hN.warm hW, by rw [hU]; exact Nat.le_trans hz hS.1⟩⟩ rfl (by simp [hn]) (hL.1) (by simp) (lv_room (by rw [k_sum]; exact h8)) hd ⟨by show cells + 0 ≤ R.cells; have := hE.1; have := hE.2.1; omega, by show slots + 0 ≤ R.slots; omega⟩
  refine k_cont hrun hS (fun v σ' H1 locs1 hp hw1 hS1 => ?_)
  rw [k_tl]
  exact hp.1 C (by rw [hE.1]; exact ⟨hw1.1, hw1.2.1, fun h => absurd h hE.2.2⟩) hS1 hR L hL
end kC
