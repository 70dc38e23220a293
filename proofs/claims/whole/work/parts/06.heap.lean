/-! ===== rows over the cells ===== -/
section kH0
variable {p : Program} {l : Launch} {e : Env} {R : Room} {s : State} {m : MethodId} {args : Array Value} {below : List Frame} {meth : Method} {c : Code} {H : Heap} {locs : List Loc} {cells slots : Nat} {Q : State → Prop}
variable {cc : ByteArray} {pc : Nat} {ls : Array Slot} {rest : List Value} {D : va_G} {cl : List vw_C} {A : Nat → Prop} {a : Nat} {tys : List (ClassId × FieldType)} {ws : va_W} {H0 : Heap}
theorem k_put {own : String} {ci idx k : Nat} {fin : Bool} {ok : Value → Prop} {v : Value} (hF : k_P own idx ci k fin ok) (hv : ok v) (hexec : p.tables.exec = Jvm.exec) (hb : c.code = cc) (hts : ∀ w ∈ lw_g, w.before args s = true) (hown : s.vm.findClass own = some m.cls) (hmn : fin = true → meth.name = "<init>") (hK : va_K D vwCl tys s) (hP : va_P D vwCl ws H) (hD : va_D A ws) (hS0 : va_S A H0 H locs) (q0 : Nat) {fs : List Value} (he : ws[q0]? = some (a, .inr (ci, fs))) (hl : k < fs.length)
    (hdg : decode cc pc = .ok (.putfield idx, 3)) (kk : ∀ (H1 : Heap) (locs1 : List Loc), va_P D vwCl (ws.set q0 (a, .inr (ci, fs.set k v))) H1 → va_D A (ws.set q0 (a, .inr (ci, fs.set k v))) → va_S A H0 H1 locs1 → H1.size = H.size → W p l e R s m args below meth c H1 locs1 cells slots Q (F0 m (pc + 3) ls rest)) : W p l e R s m args below meth c H locs cells slots Q (F0 m pc ls (v :: .ref a :: rest)) := by
  obtain ⟨C, T, N, ty0, ty, hc, hk, hin, hty, hnm, hlink, hfin, hdecl, hd, hnf⟩ := hF
  have hlink := hts _ hlink
  obtain ⟨hn, hfit⟩ := hnf v hv
  have hap := va_apart (own := own) hts hin ty0 hty hnm hK hc
  obtain ⟨r, h1, cell, q1, q2, q3, q4⟩ := hP q0 _ he
  have hr : r = (C, T, N) := Option.some.inj (h1.symm.trans hc)
  subst hr
  obtain ⟨hS, hfc, kC, hkC, hkind⟩ := hK.1 ci _ hc
  obtain ⟨cf, kf, fi, f, hi, hsl⟩ := hS k hk
  have hlay := hts _ (hin _ (u_in_lay hk))
  unfold u_lay at hlay
  have hst := (u_facts hfc hkC (u_lays hts hin hk) hi).1
  cases fin with
  | false =>
    rw [if_neg (by rw [hfin]; decide)] at hlay
    have h6 := u_store hfc hkC hkind hlay hi hd hn hfit
    refine W.putK hexec hb (f := f) ⟨hown, hlink, ⟨_, _, _, hi⟩, hst⟩ (by rw [q2]; exact h6) q1 q3 (by rw [hsl]; exact k2_hasslot (q4 k hk)) rfl rfl hdg fun H' e1 e2 e3 => ?_
    rw [hsl] at e1 ⊢
    exact kk H' _ (hP.set hD he ⟨_, hc, t_OB.to (V := updV (vp_V fs) k v) ⟨_, e1, q2, q3, t_set q4 hap hk v⟩ (fun j _ => vp_updV_set hl v j)⟩ e3) (hD.set he) (hS0.put e2 e3 (hD.2 q0 _ he)) e2
  | true =>
    rw [if_pos hfin] at hlay
    have hcf : m.cls = cf := by
      obtain ⟨_, _, c', _, _, _, -, -, hf', -, -, -, hown2, -⟩ := Cond.laysFinal_spec hlay
      have e1 : c' = cf := by have := hi.symm.trans hf'; simp at this; exact this.1.symm
      rw [hdecl rfl] at hown2
      rw [← e1]; exact Option.some.inj (hown.symm.trans hown2)
    have h6 := u_fits hfc hkC hkind (Or.inr hlay) hi hd hn hfit
    refine W.putFinK hexec hb hown hlink hi hst hcf (hmn rfl) (by rw [q2]; exact h6) q1 q3 (by rw [hsl]; exact k2_hasslot (q4 k hk)) rfl rfl hdg fun H' e1 e2 e3 => ?_
    rw [hsl] at e1 ⊢
    exact kk H' _ (hP.set hD he ⟨_, hc, t_OB.to (V := updV (vp_V fs) k v) ⟨_, e1, q2, q3, t_set q4 hap hk v⟩ (fun j _ => vp_updV_set hl v j)⟩ e3) (hD.set he) (hS0.put e2 e3 (hD.2 q0 _ he)) e2
theorem k_iast (hexec : p.tables.exec = Jvm.exec) (hb : c.code = cc) (hK : va_K D cl tys s) (hP : va_P D cl ws H) (hD : va_D A ws) (hS : va_S A H0 H locs) (q0 t0 : Nat) {cA : ClassId} {n : Nat} {f : Nat → Int32} (ha : ws[q0]? = some (a, .inl (cA, n, .inl f))) (ht : tys[t0]? = some (cA, .int)) {i : Int32} {x : Int32} (hin : vp_in i n) (hdg : decode cc pc = .ok (.iastore, 1))
    (kk : ∀ (H1 : Heap) (locs1 : List Loc), va_P D cl (ws.set q0 (a, .inl (cA, n, .inl (upd f i.toNatClampNeg x)))) H1 → va_D A (ws.set q0 (a, .inl (cA, n, .inl (upd f i.toNatClampNeg x)))) → va_S A H0 H1 locs1 → H1.size = H.size → W p l e R s m args below meth c H1 locs1 cells slots Q (F0 m (pc + 1) ls rest)) : W p l e R s m args below meth c H locs cells slots Q (F0 m pc ls (.int x :: .int i :: .ref a :: rest)) := by
  refine W.iast hexec hb (hP q0 _ ha) ((hK.2 t0 _ ht).1 n (fun j => .int (f j))) (fun q => by cases q) (by show ¬ (i < 0 ∨ (arrV _ _ _).slots.size ≤ _); rw [arrV_size]; exact hin) rfl rfl hdg fun H1 e z oq => ?_
  refine kk H1 _ (hP.set hD ha ?_ oq) (hD.set ha) (hS.put z oq (hD.2 q0 _ ha)) z
  show H1[a]? = some (vp_cell _ _)
  rw [e]
  rw [vp_cell_i, vp_cell_i, arrV_store]
  congr 2
  funext q
  by_cases hq : q = i.toNatClampNeg
  · subst hq
    simp [updV, upd]
  · simp [updV, upd, hq]
end kH0
section kH
variable {y : MethodName} {cc : ByteArray} {mx : Nat} {ret : Option FieldType} {d : Nat} {E : kE} {pc : Nat} {ls : List (Option Value)} {st : List Value} {σ : kS} {post : Option Value → kS → Prop}
theorem k_fld {ad : Nat → Nat} {x k kd : Nat} {ks : List Nat} (hk : ks[k]? = some kd) : ((List.range ks.length).map (fun k => k_fv ad σ x k (ks.getD k 0)))[k]? = some (k_fv ad σ x k kd) := by
  have hl := (List.getElem?_eq_some_iff.mp hk).1
  simp only [List.getElem?_map, List.getElem?_range hl, Option.map_some, List.getD_eq_getElem?_getD, hk, Option.getD_some]
theorem v_geti {idx ci k x : Nat} {ks : List Nat} (hF : k_F y.cls idx ci k) (hd : decode cc pc = .ok (.getfield idx, 3)) (hsh : k_sh x = (0, ci, ks)) (hk : ks[k]? = some 0) (hx : x < E.1) (kk : V y cc mx ret d E (pc + 3) ls (.int (k_i σ x k) :: st) σ post) : V y cc mx ret d E pc ls (.ref x :: st) σ post := by
  refine ⟨fun C w hS hR L hL => ?_, trivial⟩
  obtain ⟨C0, T, N, hc, hkN, hin, hl⟩ := hF
  exact va_get (v := .int (k_i σ x k)) C.1 C.2.1 C.2.2.2.2.2.1 hin C.2.2.2.1 C.2.2.2.2.2.2.2.1 w.1 x (by rw [k_W_at hx, k_obj hsh]) hc k hkN (C.2.2.2.2.2.1 _ hl) (fun _ h => h) (k_fld hk) hd (kk.1 C w hS hR L hL)
theorem v_getr {idx ci k x j : Nat} {ks : List Nat} (hF : k_F y.cls idx ci k) (hd : decode cc pc = .ok (.getfield idx, 3)) (hsh : k_sh x = (0, ci, ks)) (hk : ks[k]? = some 2) (hx : x < E.1) (hr : k_r σ x k = some j) (kk : V y cc mx ret d E (pc + 3) ls (.ref j :: st) σ post) : V y cc mx ret d E pc ls (.ref x :: st) σ post := by
  refine ⟨@fun p l e R s m args below meth c H locs cells slots mc ms Q D z ad cA C w hS hR L hL => ?_, trivial⟩
  obtain ⟨C0, T, N, hc, hkN, hin, hl⟩ := hF
  have h1 := k_fld (ad := ad) (σ := σ) (x := x) hk
  have h2 : k_fv ad σ x k 2 = .ref (ad j) := by simp [k_fv, hr, va_rf]
  rw [h2] at h1
  exact va_get (v := .ref (ad j)) C.1 C.2.1 C.2.2.2.2.2.1 hin C.2.2.2.1 C.2.2.2.2.2.2.2.1 w.1 x (by rw [k_W_at hx, k_obj hsh]) hc k hkN (C.2.2.2.2.2.1 _ hl) (fun _ h => h) h1 hd (kk.1 C w hS hR L hL)
theorem k_seti {ad : Nat → Nat} {cA : Nat → ClassId} {x ci k : Nat} {ks : List Nat} {v : Int32} (hsh : k_sh x = (0, ci, ks)) (hk : ks[k]? = some 0) : k_ce ad cA (k_wi σ x (upd (k_i σ x) k v)) x = .inr (ci, ((List.range ks.length).map (fun j => k_fv ad σ x j (ks.getD j 0))).set k (.int v)) := by
  rw [k_obj hsh, k_rset]
  refine congrArg (fun f => (Sum.inr (ci, (List.range ks.length).map f) : va_E)) (funext fun j => ?_)
  by_cases hj : j = k
  · subst hj
    simp [k_fv, k_ii, upd, List.getD_eq_getElem?_getD, hk]
  · simp [k_fv, k_ii, k_ri, upd, hj]
theorem k_setr {ad : Nat → Nat} {cA : Nat → ClassId} {x ci k j0 : Nat} {ks : List Nat} (hsh : k_sh x = (0, ci, ks)) (hk : ks[k]? = some 2) : k_ce ad cA (k_wr σ x (va_up (k_r σ x) k (some j0))) x = .inr (ci, ((List.range ks.length).map (fun j => k_fv ad σ x j (ks.getD j 0))).set k (.ref (ad j0))) := by
  rw [k_obj hsh, k_rset]
  refine congrArg (fun f => (Sum.inr (ci, (List.range ks.length).map f) : va_E)) (funext fun j => ?_)
  by_cases hj : j = k
  · subst hj
    simp [k_fv, k_rr, va_up, List.getD_eq_getElem?_getD, hk, va_rf]
  · simp [k_fv, k_rr, k_ir, va_up, hj]
theorem v_puti {idx ci k x : Nat} {ks : List Nat} {v : Int32} {fin : Bool} {ok : Value → Prop} (hF : k_P y.cls idx ci k fin ok) (hv : ok (.int v)) (hm : fin = true → y.name = "<init>") (hd : decode cc pc = .ok (.putfield idx, 3)) (hsh : k_sh x = (0, ci, ks)) (hk : ks[k]? = some 0) (hx : x < E.1) (kk : V y cc mx ret d E (pc + 3) ls st (k_wi σ x (upd (k_i σ x) k v)) post) : V y cc mx ret d E pc ls (.int v :: .ref x :: st) σ post := by
  refine ⟨fun C w hS hR L hL => ?_, trivial⟩
  refine k_put (v := .int v) hF hv C.1 C.2.1 C.2.2.2.2.2.1 C.2.2.2.1 (fun h => (C.2.2.2.2.1 (hm h)).trans (hm h)) C.2.2.2.2.2.2.2.1 w.1 w.2.1 hS x (by rw [k_W_at hx, k_obj hsh]) (by simp; exact (List.getElem?_eq_some_iff.mp hk).1) hd (fun H1 locs1 hP hD hS1 hz => ?_)
  rw [k_W_set hx k_ce_wi (k_seti hsh hk)] at hP hD
  exact kk.1 C ⟨hP, hD, fun h => hz.trans (w.2.2 h)⟩ hS1 hR L hL
theorem v_putr {idx ci k x j : Nat} {ks : List Nat} {fin : Bool} {ok : Value → Prop} (hF : k_P y.cls idx ci k fin ok) (hv : ∀ a : Nat, ok (.ref a)) (hm : fin = true → y.name = "<init>") (hd : decode cc pc = .ok (.putfield idx, 3)) (hsh : k_sh x = (0, ci, ks)) (hk : ks[k]? = some 2) (hx : x < E.1) (kk : V y cc mx ret d E (pc + 3) ls st (k_wr σ x (va_up (k_r σ x) k (some j))) post) : V y cc mx ret d E pc ls (.ref j :: .ref x :: st) σ post := by
  refine ⟨fun C w hS hR L hL => ?_, trivial⟩
  refine k_put (v := .ref _) hF (hv _) C.1 C.2.1 C.2.2.2.2.2.1 C.2.2.2.1 (fun h => (C.2.2.2.2.1 (hm h)).trans (hm h)) C.2.2.2.2.2.2.2.1 w.1 w.2.1 hS x (by rw [k_W_at hx, k_obj hsh]) (by simp; exact (List.getElem?_eq_some_iff.mp hk).1) hd (fun H1 locs1 hP hD hS1 hz => ?_)
  rw [k_W_set hx k_ce_wr (k_setr hsh hk)] at hP hD
  exact kk.1 C ⟨hP, hD, fun h => hz.trans (w.2.2 h)⟩ hS1 hR L hL
/-! arrays; the place as a number j -/
theorem v_iald {x n j : Nat} {i : Int32} (hd : decode cc pc = .ok (.iaload, 1)) (hsh : k_sh x = (1, n, [])) (hx : x < E.1) (hn : n < 2 ^ 31) (hi : i = nI j) (hj : j < n) (kk : V y cc mx ret d E (pc + 1) ls (.int (k_i σ x j) :: st) σ post) : V y cc mx ret d E pc ls (.int i :: .ref x :: st) σ post := by
  refine ⟨fun C w hS hR L hL => ?_, trivial⟩
  subst hi
  refine va_iald C.1 C.2.1 C.2.2.2.2.2.2.2.1 w.1 x 0 (by rw [k_W_at hx, k_arI hsh]) rfl (vp_in_nI hj hn) hd ?_
  rw [nI_clamp (by omega)]
  exact kk.1 C w hS hR L hL
theorem v_iast {x n j : Nat} {i v : Int32} (hd : decode cc pc = .ok (.iastore, 1)) (hsh : k_sh x = (1, n, [])) (hx : x < E.1) (hn : n < 2 ^ 31) (hi : i = nI j) (hj : j < n) (kk : V y cc mx ret d E (pc + 1) ls st (k_wi σ x (upd (k_i σ x) j v)) post) : V y cc mx ret d E pc ls (.int v :: .int i :: .ref x :: st) σ post := by
  refine ⟨fun C w hS hR L hL => ?_, trivial⟩
  subst hi
  refine k_iast C.1 C.2.1 C.2.2.2.2.2.2.2.1 w.1 w.2.1 hS x 0 (by rw [k_W_at hx, k_arI hsh]) rfl (vp_in_nI hj hn) hd (fun H1 locs1 hP hD hS1 hz => ?_)
  rw [nI_clamp (by omega)] at hP hD
  rw [k_W_set hx k_ce_wi (by rw [k_arI hsh, k_ii])] at hP hD
  exact kk.1 C ⟨hP, hD, fun h => hz.trans (w.2.2 h)⟩ hS1 hR L hL
theorem v_lald {x n j : Nat} {i : Int32} (hd : decode cc pc = .ok (.laload, 1)) (hsh : k_sh x = (2, n, [])) (hx : x < E.1) (hn : n < 2 ^ 31) (hi : i = nI j) (hj : j < n) (kk : V y cc mx ret d E (pc + 1) ls (.long (k_l σ x j) :: st) σ post) : V y cc mx ret d E pc ls (.int i :: .ref x :: st) σ post := by
  refine ⟨fun C w hS hR L hL => ?_, trivial⟩
  subst hi
  refine va_lald C.1 C.2.1 C.2.2.2.2.2.2.2.1 w.1 x 1 (by rw [k_W_at hx, k_arL hsh]) rfl (vp_in_nI hj hn) hd ?_
  rw [nI_clamp (by omega)]
  exact kk.1 C w hS hR L hL
theorem v_last {x n j : Nat} {i : Int32} {v : Int64} (hal : ¬ E.2.2.2.1) (hd : decode cc pc = .ok (.lastore, 1)) (hsh : k_sh x = (2, n, [])) (hx : x < E.1) (hn : n < 2 ^ 31) (hi : i = nI j) (hj : j < n) (kk : V y cc mx ret d E (pc + 1) ls st (k_wl σ x (vp_updL (k_l σ x) j v)) post) : V y cc mx ret d E pc ls (.long v :: .int i :: .ref x :: st) σ post := by
  refine ⟨fun C w hS hR L hL => ?_, trivial⟩
  subst hi
  refine va_last C.1 C.2.1 C.2.2.2.2.2.2.2.1 w.1 w.2.1 hS x 1 (by rw [k_W_at hx, k_arL hsh]) rfl (vp_in_nI hj hn) hd (fun H1 locs1 hP hD hS1 => ?_)
  rw [nI_clamp (by omega)] at hP hD
  rw [k_W_set hx k_ce_wl (by rw [k_arL hsh, k_ll])] at hP hD
  exact kk.1 C ⟨hP, hD, fun h => absurd h hal⟩ hS1 hR L hL
theorem v_aald {x n j q : Nat} {i : Int32} (hd : decode cc pc = .ok (.aaload, 1)) (hsh : k_sh x = (3, n, [])) (hx : x < E.1) (hn : n < 2 ^ 31) (hi : i = nI j) (hj : j < n) (hr : k_r σ x j = some q) (kk : V y cc mx ret d E (pc + 1) ls (.ref q :: st) σ post) : V y cc mx ret d E pc ls (.int i :: .ref x :: st) σ post := by
  refine ⟨@fun p l e R s m args below meth c H locs cells slots mc ms Q D z ad cA C w hS hR L hL => ?_, trivial⟩
  subst hi
  have ha : (k_W ad cA E.1 σ)[x]? = some (ad x, .inl (cA 2, n, .inr (.inr (.inr (.inr (fun j => (k_r σ x j).map ad)))))) := by rw [k_W_at hx, k_arR hsh]
  refine W.aald (v := .ref (ad q)) (ty := .array .int) C.1 C.2.1 (w.1 x _ ha) ((C.2.2.2.2.2.2.2.1.2 2 (cA 2, .array .int) rfl).1 n (fun j => va_rf ((k_r σ x j).map ad))) rfl (fun q => by cases q) (by show ¬ (nI j < 0 ∨ (arrV _ _ _).slots.size ≤ _); rw [arrV_size]; exact vp_in_nI hj hn) (by show (arrV _ _ _).slots[_]? = _; rw [nI_clamp (by omega), arrV_read _ _ hj]; show some (va_rf ((k_r σ x j).map ad)) = _; rw [hr]; rfl) rfl rfl hd (kk.1 C w hS hR L hL)
/-! arraycopy -/
theorem k_sum (ad : Nat → Nat) (st : List Value) : ((st.map (k_v ad)).map fun v => v.category).sum = (st.map fun v => v.category).sum := by
  rw [List.map_map]
  congr 2
  funext v
  exact k_v_cat ad v
theorem v_copyi {idx x0 x1 n0 n1 a b c2 : Nat} {sp dp n : Int32} (hal : ¬ E.2.2.2.1) (hC : k_AC y.cls idx) (hd : decode cc pc = .ok (.invokestatic idx, 3)) (hs0 : k_sh x0 = (1, n0, [])) (hs1 : k_sh x1 = (1, n1, [])) (hx0 : x0 < E.1) (hx1 : x1 < E.1) (hsp : sp = nI a) (hdp : dp = nI b) (hn : n = nI c2) (h0 : a + c2 ≤ n0) (h1 : b + c2 ≤ n1) (hb0 : n0 < 2 ^ 31) (hb1 : n1 < 2 ^ 31) (h8 : (st.map fun v => v.category).sum ≤ 8)
    (kk : V y cc mx ret (d + 1) E (pc + 3) ls st (k_wi σ x1 (va_cpy (k_i σ x0) (k_i σ x1) a b c2)) post) : V y cc mx ret (d + 1) E pc ls (.int n :: .int dp :: .ref x1 :: .int sp :: .ref x0 :: st) σ post := by
  refine ⟨fun C w hS hR L hL => ?_, trivial⟩
  subst hsp; subst hdp; subst hn
  have ht := C.2.2.2.2.2.1
  have ca : (nI a).toNatClampNeg = a := nI_clamp (by omega)
  have cb : (nI b).toNatClampNeg = b := nI_clamp (by omega)
  have c3 : (nI c2).toNatClampNeg = c2 := nI_clamp (by omega)
  have e9 : nativeFrameWords "java/lang/System" "arraycopy" 5 + 11 ≤ 32 := by decide +kernel
  have f1 := C.2.2.2.2.2.2.2.2.2.2.2.1
  have f2 := C.2.2.2.2.2.2.2.2.2.2.2.2.1
  refine va_copyi (sp := nI a) (dp := nI b) (n := nI c2) C.1 C.2.1 (C.2.2.1.trans hL.1.symm) C.2.2.2.1 (ht _ hC.1) (ht _ hC.2.1) (ht _ hC.2.2.1) (ht _ hC.2.2.2) C.2.2.2.2.2.2.2.1 w.1 w.2.1 hS x0 x1 0 0 (by rw [k_W_at hx0, k_arI hs0]) (by rw [k_W_at hx1, k_arI hs1]) rfl rfl rfl (nI_pos (by omega)) (nI_pos (by omega)) (nI_pos (by omega)) (by rw [ca, c3]; exact h0) (by rw [cb, c3]; exact h1) (fun i _ => rfl) (by omega) (by rw [k_sum]; omega) hd (fun H1 locs1 hP hD hS1 => ?_)
  rw [ca, cb, c3] at hP hD
  rw [k_W_set hx1 k_ce_wi (by rw [k_arI hs1, k_ii])] at hP hD
  exact kk.1 C ⟨hP, hD, fun h => absurd h hal⟩ hS1 hR L hL
theorem v_copyl {idx x0 x1 n0 n1 a b c2 : Nat} {sp dp n : Int32} (hal : ¬ E.2.2.2.1) (hC : k_AC y.cls idx) (hd : decode cc pc = .ok (.invokestatic idx, 3)) (hs0 : k_sh x0 = (2, n0, [])) (hs1 : k_sh x1 = (2, n1, [])) (hx0 : x0 < E.1) (hx1 : x1 < E.1) (hsp : sp = nI a) (hdp : dp = nI b) (hn : n = nI c2) (h0 : a + c2 ≤ n0) (h1 : b + c2 ≤ n1) (hb0 : n0 < 2 ^ 31) (hb1 : n1 < 2 ^ 31) (h8 : (st.map fun v => v.category).sum ≤ 8)
    (kk : V y cc mx ret (d + 1) E (pc + 3) ls st (k_wl σ x1 (va_cpy (k_l σ x0) (k_l σ x1) a b c2)) post) : V y cc mx ret (d + 1) E pc ls (.int n :: .int dp :: .ref x1 :: .int sp :: .ref x0 :: st) σ post := by
  refine ⟨fun C w hS hR L hL => ?_, trivial⟩
  subst hsp; subst hdp; subst hn
  have ht := C.2.2.2.2.2.1
  have ca : (nI a).toNatClampNeg = a := nI_clamp (by omega)
  have cb : (nI b).toNatClampNeg = b := nI_clamp (by omega)
  have c3 : (nI c2).toNatClampNeg = c2 := nI_clamp (by omega)
  have e9 : nativeFrameWords "java/lang/System" "arraycopy" 5 + 11 ≤ 32 := by decide +kernel
  have f1 := C.2.2.2.2.2.2.2.2.2.2.2.1
  have f2 := C.2.2.2.2.2.2.2.2.2.2.2.2.1
  refine va_copyl (sp := nI a) (dp := nI b) (n := nI c2) C.1 C.2.1 (C.2.2.1.trans hL.1.symm) C.2.2.2.1 (ht _ hC.1) (ht _ hC.2.1) (ht _ hC.2.2.1) (ht _ hC.2.2.2) C.2.2.2.2.2.2.2.1 w.1 w.2.1 hS x0 x1 1 1 (by rw [k_W_at hx0, k_arL hs0]) (by rw [k_W_at hx1, k_arL hs1]) rfl rfl rfl (nI_pos (by omega)) (nI_pos (by omega)) (nI_pos (by omega)) (by rw [ca, c3]; exact h0) (by rw [cb, c3]; exact h1) (fun i _ => rfl) (by omega) (by rw [k_sum]; omega) hd (fun H1 locs1 hP hD hS1 => ?_)
  rw [ca, cb, c3] at hP hD
  rw [k_W_set hx1 k_ce_wl (by rw [k_arL hs1, k_ll])] at hP hD
  exact kk.1 C ⟨hP, hD, fun h => absurd h hal⟩ hS1 hR L hL
/-! the script -/
theorem v_slen (hL0 : E.2.2.2.2.2.1 ≠ 0) (hd : decode cc pc = .ok (.arraylength, 1)) (kk : V y cc mx ret d E (pc + 1) ls (.int (nI (E.2.2.2.2.2.1 - 1)) :: st) σ post) : V y cc mx ret d E pc ls (.ref 1000 :: st) σ post := by
  refine ⟨fun C w hS hR L hL => ?_, trivial⟩
  rcases C.2.2.2.2.2.2.2.2.2.2.1 with h | ⟨h1, hX⟩
  · exact absurd h hL0
  · have hbl := h1
    have hz := C.2.2.2.2.2.2.2.2.1
    exact va_slen C.1 C.2.1 hX (by omega) (Nat.not_le.mpr h1) hS hd (kk.1 C w hS hR L hL)
theorem v_sld {i : Int32} {j : Nat} (hd : decode cc pc = .ok (.iaload, 1)) (hi : i = nI j) (hj : j < E.2.2.2.2.2.1 - 1) (hb : E.2.2.2.2.2.1 < 2 ^ 31) (kk : V y cc mx ret d E (pc + 1) ls (.int (E.2.2.2.2.2.2 j) :: st) σ post) : V y cc mx ret d E pc ls (.int i :: .ref 1000 :: st) σ post := by
  refine ⟨fun C w hS hR L hL => ?_, trivial⟩
  subst hi
  rcases C.2.2.2.2.2.2.2.2.2.2.1 with h | ⟨h1, hX⟩
  · omega
  · have hz := C.2.2.2.2.2.2.2.2.1
    refine va_sld C.1 C.2.1 hX (by omega) (Nat.not_le.mpr h1) hS (vp_in_nI hj (by omega)) hd ?_
    rw [nI_clamp (by omega)]
    exact kk.1 C w hS hR L hL
end kH
