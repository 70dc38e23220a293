/-! ===== the state between calls: numbers alone; the references stand as they were made (but Counting's two rows, which change places) ===== -/
abbrev kT : Type := (Nat → Nat → Int32) × (Nat → Nat → Int64)
def q_i (τ : kT) : Nat → Nat → Int32 := τ.1
def q_l (τ : kT) : Nat → Nat → Int64 := τ.2
def q_wi (τ : kT) (x : Nat) (f : Nat → Int32) : kT := (va_up τ.1 x f, τ.2)
def q_wl (τ : kT) (x : Nat) (f : Nat → Int64) : kT := (τ.1, va_up τ.2 x f)
def q_si (τ : kT) (x k : Nat) (v : Int32) : kT := q_wi τ x (upd (q_i τ x) k v)
def q_sl (τ : kT) (x k : Nat) (v : Int64) : kT := q_wl τ x (vp_updL (q_l τ x) k v)
def q_c1 (τ : kT) : Nat := if q_i τ 59 9 = 0 then 61 else 62
def q_c2 (τ : kT) : Nat := if q_i τ 59 9 = 0 then 62 else 61
def k_Rl : List (List (Option Nat)) := [[some 1, some 20, none, none, none, none, some 39, some 42, some 45, some 59, some 63], [some 2, some 9, some 15, some 19, none, none, none], [some 3, some 4, some 5, some 6, some 7, none, none, some 8], [], [], [], [], [], [], [some 10, some 11, some 12, some 13, some 14, none], [], [], [], [], [], [some 16, some 17, some 18, none], [], [], [], [], [some 21, some 28, some 34, some 38, none, none, none], [some 22, some 23, some 24, some 25, some 26, none, none, some 27], [], [], [], [], [], [], [some 29, some 30, some 31, some 32, some 33, none], [], [], [], [], [], [some 35, some 36, some 37, none], [], [], [], [], [some 40, none], [some 41, none], [], [some 43, none], [some 44, none], [], [none, none, none, none, none, some 46, none, none, some 47, some 48, none, none, some 49, some 50, some 51, some 52], [], [], [], [], [], [], [], [], [], [], [], [], [], [some 60, none, none], [], [], [], [some 64, some 65, none, none, none, none], [], [], [some 67, some 68, none, none, none, none, none, none, some 69, none, none, some 70, some 71, some 72, none, some 73, some 74, some 75, some 76, some 77, none, some 78, some 79], [], [], [], [], [], [], [], [], [], [], [], [], []]
def k_R (τ : kT) (x k : Nat) : Option Nat := if x = 52 then (if k < 6 then some (53 + k) else none) else if x = 59 then (if k = 0 then some 60 else if k = 1 then some (q_c1 τ) else if k = 2 then some (q_c2 τ) else none) else (k_Rl.getD x []).getD k none
def k_up (τ : kT) : kS := (τ.1, τ.2, k_R τ)
abbrev U (y : MethodName) (cc : ByteArray) (mx : Nat) (ret : Option FieldType) (d : Nat) (E : kE) (pc : Nat) (ls : List (Option Value)) (st : List Value) (τ : kT) (post : Option Value → kT → Prop) : Prop := V y cc mx ret d E pc ls st (k_up τ) (fun v σ' => ∃ τ', σ' = k_up τ' ∧ post v τ')
theorem k_up_wi {τ : kT} {x : Nat} (f : Nat → Int32) (h : x ≠ 59) : k_wi (k_up τ) x f = k_up (q_wi τ x f) := by
  have e : k_R (q_wi τ x f) = k_R τ := by
    funext a b
    have e2 : q_i (q_wi τ x f) 59 9 = q_i τ 59 9 := by simp [q_i, q_wi, va_up, Ne.symm h]
    simp [k_R, q_c1, q_c2, e2]
  show (va_up τ.1 x f, τ.2, k_R τ) = (_, _, k_R (q_wi τ x f))
  rw [e]
  rfl
theorem k_up_wl {τ : kT} {x : Nat} (f : Nat → Int64) : k_wl (k_up τ) x f = k_up (q_wl τ x f) := rfl
theorem k_n59 {x n t : Nat} (h : k_sh x = (t, n, [])) : x ≠ 59 := by
  intro e
  subst e
  have : k_sh 59 = (0, 2, [2, 2, 2]) := by decide +kernel
  rw [this] at h
  cases h
theorem k_n59o {x ci : Nat} {ks : List Nat} (h : k_sh x = (0, ci, ks)) (hc : ci ≠ 2) : x ≠ 59 := by
  intro e
  subst e
  have : k_sh 59 = (0, 2, [2, 2, 2]) := by decide +kernel
  rw [this] at h
  cases h
  exact hc rfl
theorem k_c1_sh (τ : kT) : k_sh (q_c1 τ) = (2, 10, []) := by unfold q_c1; split <;> decide +kernel
theorem k_c2_sh (τ : kT) : k_sh (q_c2 τ) = (2, 10, []) := by unfold q_c2; split <;> decide +kernel
theorem k_c1_lt (τ : kT) : q_c1 τ < 80 := by unfold q_c1; split <;> decide
theorem k_c2_lt (τ : kT) : q_c2 τ < 80 := by unfold q_c2; split <;> decide
theorem k_53_sh {j : Nat} (h : j < 6) : k_sh (53 + j) = (1, 30, []) := by
  have : ∀ j, j < 6 → k_sh (53 + j) = (1, 30, []) := by decide +kernel
  exact this j h
theorem V.mono {y : MethodName} {cc : ByteArray} {mx : Nat} {ret : Option FieldType} {d : Nat} {E : kE} {pc : Nat} {ls : List (Option Value)} {st : List Value} {σ : kS} {post post2 : Option Value → kS → Prop} (h : V y cc mx ret d E pc ls st σ post) (hp : ∀ v σ', post v σ' → post2 v σ') : V y cc mx ret d E pc ls st σ post2 :=
  ⟨fun C w hS hR L hL => h.1 C w hS (fun v σ' H' locs' pc' L' h1 h2 h3 h4 => hR v σ' H' locs' pc' L' (hp v σ' h1) h2 h3 h4) L hL, trivial⟩
section kU
variable {y : MethodName} {cc : ByteArray} {mx : Nat} {ret : Option FieldType} {d : Nat} {E : kE} {pc : Nat} {ls : List (Option Value)} {st : List Value} {τ : kT} {post : Option Value → kT → Prop}
theorem u_geti {idx ci k x : Nat} {ks : List Nat} (hF : k_F y.cls idx ci k) (hd : decode cc pc = .ok (.getfield idx, 3)) (hsh : k_sh x = (0, ci, ks)) (hk : ks[k]? = some 0) (hx : x < E.1) (kk : U y cc mx ret d E (pc + 3) ls (.int (q_i τ x k) :: st) τ post) : U y cc mx ret d E pc ls (.ref x :: st) τ post := v_geti hF hd hsh hk hx kk
theorem u_getr {idx ci k x j : Nat} {ks : List Nat} (hF : k_F y.cls idx ci k) (hd : decode cc pc = .ok (.getfield idx, 3)) (hsh : k_sh x = (0, ci, ks)) (hk : ks[k]? = some 2) (hx : x < E.1) (hr : k_R τ x k = some j) (kk : U y cc mx ret d E (pc + 3) ls (.ref j :: st) τ post) : U y cc mx ret d E pc ls (.ref x :: st) τ post := v_getr (σ := k_up τ) hF hd hsh hk hx hr kk
theorem u_puti {idx ci k x : Nat} {ks : List Nat} {v : Int32} {ok : Value → Prop} (hF : k_P y.cls idx ci k false ok) (hv : ok (.int v)) (hd : decode cc pc = .ok (.putfield idx, 3)) (hsh : k_sh x = (0, ci, ks)) (hk : ks[k]? = some 0) (hx : x < E.1) (hc : ci ≠ 2) (kk : ∀ τ2, τ2 = q_si τ x k v → U y cc mx ret d E (pc + 3) ls st τ2 post) : U y cc mx ret d E pc ls (.int v :: .ref x :: st) τ post := v_puti hF hv (fun h => by cases h) hd hsh hk hx (by rw [k_up_wi _ (k_n59o hsh hc)]; exact kk _ rfl)
theorem u_iald {x n j : Nat} {i : Int32} (hd : decode cc pc = .ok (.iaload, 1)) (hsh : k_sh x = (1, n, [])) (hx : x < E.1) (hn : n < 2 ^ 31) (hi : i = nI j) (hj : j < n) (kk : U y cc mx ret d E (pc + 1) ls (.int (q_i τ x j) :: st) τ post) : U y cc mx ret d E pc ls (.int i :: .ref x :: st) τ post := v_iald hd hsh hx hn hi hj kk
theorem u_iast {x n j : Nat} {i v : Int32} (hd : decode cc pc = .ok (.iastore, 1)) (hsh : k_sh x = (1, n, [])) (hx : x < E.1) (hn : n < 2 ^ 31) (hi : i = nI j) (hj : j < n) (kk : ∀ τ2, τ2 = q_si τ x j v → U y cc mx ret d E (pc + 1) ls st τ2 post) : U y cc mx ret d E pc ls (.int v :: .int i :: .ref x :: st) τ post := v_iast hd hsh hx hn hi hj (by rw [k_up_wi _ (k_n59 hsh)]; exact kk _ rfl)
theorem u_lald {x n j : Nat} {i : Int32} (hd : decode cc pc = .ok (.laload, 1)) (hsh : k_sh x = (2, n, [])) (hx : x < E.1) (hn : n < 2 ^ 31) (hi : i = nI j) (hj : j < n) (kk : U y cc mx ret d E (pc + 1) ls (.long (q_l τ x j) :: st) τ post) : U y cc mx ret d E pc ls (.int i :: .ref x :: st) τ post := v_lald hd hsh hx hn hi hj kk
theorem u_last {x n j : Nat} {i : Int32} {v : Int64} (hal : ¬ E.2.2.2.1) (hd : decode cc pc = .ok (.lastore, 1)) (hsh : k_sh x = (2, n, [])) (hx : x < E.1) (hn : n < 2 ^ 31) (hi : i = nI j) (hj : j < n) (kk : ∀ τ2, τ2 = q_sl τ x j v → U y cc mx ret d E (pc + 1) ls st τ2 post) : U y cc mx ret d E pc ls (.long v :: .int i :: .ref x :: st) τ post := v_last hal hd hsh hx hn hi hj (by rw [k_up_wl]; exact kk _ rfl)
theorem u_aald {j : Nat} {i : Int32} (hd : decode cc pc = .ok (.aaload, 1)) (hx : 52 < E.1) (hi : i = nI j) (hj : j < 6) (kk : U y cc mx ret d E (pc + 1) ls (.ref (53 + j) :: st) τ post) : U y cc mx ret d E pc ls (.int i :: .ref 52 :: st) τ post := v_aald hd (n := 6) (by decide +kernel) hx (by decide) hi hj (q := 53 + j) (by show k_R τ 52 j = _; simp [k_R, hj]) kk
theorem u_copyi {idx x0 x1 n0 n1 a b c2 : Nat} {sp dp n : Int32} (hal : ¬ E.2.2.2.1) (hC : k_AC y.cls idx) (hd : decode cc pc = .ok (.invokestatic idx, 3)) (hs0 : k_sh x0 = (1, n0, [])) (hs1 : k_sh x1 = (1, n1, [])) (hx0 : x0 < E.1) (hx1 : x1 < E.1) (hb0 : n0 < 2 ^ 31) (hb1 : n1 < 2 ^ 31) (h8 : (st.map fun v => v.category).sum ≤ 8) (hsp : sp = nI a) (hdp : dp = nI b) (hn : n = nI c2) (h0 : a + c2 ≤ n0) (h1 : b + c2 ≤ n1) 
    (kk : ∀ τ2, τ2 = q_wi τ x1 (va_cpy (q_i τ x0) (q_i τ x1) a b c2) → U y cc mx ret (d + 1) E (pc + 3) ls st τ2 post) : U y cc mx ret (d + 1) E pc ls (.int n :: .int dp :: .ref x1 :: .int sp :: .ref x0 :: st) τ post := v_copyi hal hC hd hs0 hs1 hx0 hx1 hsp hdp hn h0 h1 hb0 hb1 h8 (by rw [k_up_wi _ (k_n59 hs1)]; exact kk _ rfl)
theorem u_copyl {idx x0 x1 n0 n1 a b c2 : Nat} {sp dp n : Int32} (hal : ¬ E.2.2.2.1) (hC : k_AC y.cls idx) (hd : decode cc pc = .ok (.invokestatic idx, 3)) (hs0 : k_sh x0 = (2, n0, [])) (hs1 : k_sh x1 = (2, n1, [])) (hx0 : x0 < E.1) (hx1 : x1 < E.1) (hb0 : n0 < 2 ^ 31) (hb1 : n1 < 2 ^ 31) (h8 : (st.map fun v => v.category).sum ≤ 8) (hsp : sp = nI a) (hdp : dp = nI b) (hn : n = nI c2) (h0 : a + c2 ≤ n0) (h1 : b + c2 ≤ n1) 
    (kk : ∀ τ2, τ2 = q_wl τ x1 (va_cpy (q_l τ x0) (q_l τ x1) a b c2) → U y cc mx ret (d + 1) E (pc + 3) ls st τ2 post) : U y cc mx ret (d + 1) E pc ls (.int n :: .int dp :: .ref x1 :: .int sp :: .ref x0 :: st) τ post := v_copyl hal hC hd hs0 hs1 hx0 hx1 hsp hdp hn h0 h1 hb0 hb1 h8 (by rw [k_up_wl]; exact kk _ rfl)
/-! ends -/
def k_pi (post : Int32 → kT → Prop) : Option Value → kT → Prop := fun v τ => ∃ r, v = some (.int r) ∧ post r τ
def k_pl (post : Int64 → kT → Prop) : Option Value → kT → Prop := fun v τ => ∃ r, v = some (.long r) ∧ post r τ
def k_pv (post : kT → Prop) : Option Value → kT → Prop := fun v τ => v = none ∧ post τ
theorem u_iret {x : Int32} {post : Int32 → kT → Prop} (hd : decode cc pc = .ok (.ireturn, 1)) (hn : E.1 = E.2.1 ∧ (E.2.2.2.2.1 → E.2.2.2.1)) (hp : post x τ) : U y cc mx (some .int) d E pc ls [.int x] τ (k_pi post) := v_iret hd hn ⟨τ, rfl, x, rfl, hp⟩
theorem u_zret {x : Int32} {post : Int32 → kT → Prop} (hd : decode cc pc = .ok (.ireturn, 1)) (hx : narrow .boolean (.int x) = .int x) (hn : E.1 = E.2.1 ∧ (E.2.2.2.2.1 → E.2.2.2.1)) (hp : post x τ) : U y cc mx (some .boolean) d E pc ls [.int x] τ (k_pi post) := v_zret hd hx hn ⟨τ, rfl, x, rfl, hp⟩
theorem u_lret {x : Int64} {post : Int64 → kT → Prop} (hd : decode cc pc = .ok (.lreturn, 1)) (hn : E.1 = E.2.1 ∧ (E.2.2.2.2.1 → E.2.2.2.1)) (hp : post x τ) : U y cc mx (some .long) d E pc ls [.long x] τ (k_pl post) := v_lret hd hn ⟨τ, rfl, x, rfl, hp⟩
theorem u_vret {post : kT → Prop} (hd : decode cc pc = .ok (.return_, 1)) (hn : E.1 = E.2.1 ∧ (E.2.2.2.2.1 → E.2.2.2.1)) (hp : post τ) : U y cc mx none d E pc ls [] τ (k_pv post) := v_vret hd hn ⟨τ, rfl, rfl, hp⟩
/-! calls -/
theorem u_callV {y2 : MethodName} {cc2 : ByteArray} {mx2 n2 idx x ci : Nat} {ret2 : Option FieldType} {ks : List Nat} {q : vw_C} (As : List Value) {stk : List Value} {postc : Option Value → kT → Prop} (hM : k_M y2 cc2 mx2 ret2 n2) (hI : k_MV y2) (hlk : Cond.methodLink y.cls idx y2 ∈ lw_g) (hd : decode cc pc = .ok (.invokevirtual idx, 3)) (hsh : k_sh x = (0, ci, ks)) (hcl : vwCl[ci]? = some q) (hq : q.1 = y2.cls) (hx : x < 80) (hE : E.1 = 80 ∧ E.2.1 = 80 ∧ ¬ E.2.2.2.1) (hstk : stk = As.reverse ++ .ref x :: st) (hn : As.length = n2) (h8 : (st.map fun v => v.category).sum ≤ 8) (hln : (lg_sl (.ref x :: As)).length ≤ mx2)
    (hV : U y2 cc2 mx2 ret2 d kE0 0 (k_en0 (.ref x :: As) mx2) [] τ postc) (kk : ∀ v τ2, postc v τ2 → U y cc mx ret (d + 1) E (pc + 3) ls (v.toList ++ st) τ2 post) : U y cc mx ret (d + 1) E pc ls stk τ post := by
  subst hstk
  refine v_callV hM hI hlk hd hsh hcl hq hx hE hn h8 hln (hV.mono ?_)
  rintro v σ' ⟨τ2, rfl, h⟩
  exact kk v τ2 h
theorem u_callS {y2 : MethodName} {cc2 : ByteArray} {mx2 n2 idx : Nat} {ret2 : Option FieldType} (As : List Value) {stk : List Value} {postc : Option Value → kT → Prop} (hM : k_M y2 cc2 mx2 ret2 n2) (hI : Cond.static y2 ∈ lw_g) (hlk : Cond.methodLink y.cls idx y2 ∈ lw_g) (hd : decode cc pc = .ok (.invokestatic idx, 3)) (hE : E.1 = 80 ∧ E.2.1 = 80 ∧ ¬ E.2.2.2.1) (hstk : stk = As.reverse ++ st) (hn : As.length = n2) (h8 : (st.map fun v => v.category).sum ≤ 8) (hln : (lg_sl As).length ≤ mx2)
    (hV : U y2 cc2 mx2 ret2 d kE0 0 (k_en0 As mx2) [] τ postc) (kk : ∀ v τ2, postc v τ2 → U y cc mx ret (d + 1) E (pc + 3) ls (v.toList ++ st) τ2 post) : U y cc mx ret (d + 1) E pc ls stk τ post := by
  subst hstk
  refine v_callS hM hI hlk hd hE hn h8 hln (hV.mono ?_)
  rintro v σ' ⟨τ2, rfl, h⟩
  exact kk v τ2 h
end kU
/-! Math -/
section kMa
variable {y : MethodName} {cc : ByteArray} {mx : Nat} {ret : Option FieldType} {d : Nat} {E : kE} {pc : Nat} {ls : List (Option Value)} {st : List Value} {σ : kS} {post : Option Value → kS → Prop}
def q_min (x y : Int32) : Int32 := if y < x then y else x
def q_max (x y : Int32) : Int32 := if x < y then y else x
def q_abs (x : Int32) : Int32 := if 0 ≤ x then x else 0 - x
theorem v_min {idx : Nat} {x y1 : Int32} (hlk : Cond.methodLink y.cls idx Lib.Math.min.name ∈ lw_g ∧ Cond.static Lib.Math.min.name ∈ lw_g ∧ Cond.initialized "java/lang/Math" ∈ lw_g ∧ Cond.code Lib.Math.min.name Lib.Math.min.code 2 (some .int) ∈ lw_g) (hE : E.1 = 80 ∧ E.2.1 = 80 ∧ ¬ E.2.2.2.1) (h8 : (st.map fun v => v.category).sum ≤ 8) (hd : decode cc pc = .ok (.invokestatic idx, 3)) (kk : V y cc mx ret (d + 1) E (pc + 3) ls (.int (q_min x y1) :: st) σ post) : V y cc mx ret (d + 1) E pc ls (.int y1 :: .int x :: st) σ post := by
  refine ⟨fun C w hS hR L hL => ?_, trivial⟩
  obtain ⟨c1, c2, c3, c4, c5, hts, hN, hK, hz, hal, hsc, hfr, hlo, hce, hsl, hmc, hms⟩ := id C
  refine va_mmin c1 c2 (c3.trans hL.1.symm) c4 (hts _ hlk.1) (hts _ hlk.2.1) (hts _ hlk.2.2.1) (hts _ hlk.2.2.2) (by omega) (by rw [k_sum]; omega) (by have := hE.1; have := hE.2.1; omega) (by omega) hd (kk.1 C w hS hR L hL)
theorem v_max {idx : Nat} {x y1 : Int32} (hlk : Cond.methodLink y.cls idx Lib.Math.max.name ∈ lw_g ∧ Cond.static Lib.Math.max.name ∈ lw_g ∧ Cond.initialized "java/lang/Math" ∈ lw_g ∧ Cond.code Lib.Math.max.name Lib.Math.max.code 2 (some .int) ∈ lw_g) (hE : E.1 = 80 ∧ E.2.1 = 80 ∧ ¬ E.2.2.2.1) (h8 : (st.map fun v => v.category).sum ≤ 8) (hd : decode cc pc = .ok (.invokestatic idx, 3)) (kk : V y cc mx ret (d + 1) E (pc + 3) ls (.int (q_max x y1) :: st) σ post) : V y cc mx ret (d + 1) E pc ls (.int y1 :: .int x :: st) σ post := by
  refine ⟨fun C w hS hR L hL => ?_, trivial⟩
  obtain ⟨c1, c2, c3, c4, c5, hts, hN, hK, hz, hal, hsc, hfr, hlo, hce, hsl, hmc, hms⟩ := id C
  refine va_mmax c1 c2 (c3.trans hL.1.symm) c4 (hts _ hlk.1) (hts _ hlk.2.1) (hts _ hlk.2.2.1) (hts _ hlk.2.2.2) (by omega) (by rw [k_sum]; omega) (by have := hE.1; have := hE.2.1; omega) (by omega) hd (kk.1 C w hS hR L hL)
theorem v_abs {idx : Nat} {x : Int32} (hlk : Cond.methodLink y.cls idx Lib.Math.abs.name ∈ lw_g ∧ Cond.static Lib.Math.abs.name ∈ lw_g ∧ Cond.initialized "java/lang/Math" ∈ lw_g ∧ Cond.code Lib.Math.abs.name Lib.Math.abs.code 1 (some .int) ∈ lw_g) (hE : E.1 = 80 ∧ E.2.1 = 80 ∧ ¬ E.2.2.2.1) (h8 : (st.map fun v => v.category).sum ≤ 8) (hd : decode cc pc = .ok (.invokestatic idx, 3)) (kk : V y cc mx ret (d + 1) E (pc + 3) ls (.int (q_abs x) :: st) σ post) : V y cc mx ret (d + 1) E pc ls (.int x :: st) σ post := by
  refine ⟨fun C w hS hR L hL => ?_, trivial⟩
  obtain ⟨c1, c2, c3, c4, c5, hts, hN, hK, hz, hal, hsc, hfr, hlo, hce, hsl, hmc, hms⟩ := id C
  refine va_mabs c1 c2 (c3.trans hL.1.symm) c4 (hts _ hlk.1) (hts _ hlk.2.1) (hts _ hlk.2.2.1) (hts _ hlk.2.2.2) (by omega) (by rw [k_sum]; omega) (by have := hE.1; have := hE.2.1; omega) (by omega) hd (kk.1 C w hS hR L hL)
theorem v_ls {ls2 : List (Option Value)} (h : ls = ls2) (kk : V y cc mx ret d E pc ls2 st σ post) : V y cc mx ret d E pc ls st σ post := h ▸ kk
end kMa
theorem sh_0 : k_sh 0 = (0, 9, [2, 2, 0, 0, 0, 0, 2, 2, 2, 2, 2]) := by decide +kernel
theorem sh_1 : k_sh 1 = (0, 6, [2, 2, 2, 2, 0, 0, 0]) := by decide +kernel
theorem sh_2 : k_sh 2 = (0, 4, [2, 2, 2, 2, 2, 0, 0, 2]) := by decide +kernel
theorem sh_3 : k_sh 3 = (1, 100, []) := by decide +kernel
theorem sh_4 : k_sh 4 = (1, 100, []) := by decide +kernel
theorem sh_5 : k_sh 5 = (1, 1800, []) := by decide +kernel
theorem sh_6 : k_sh 6 = (1, 100, []) := by decide +kernel
theorem sh_7 : k_sh 7 = (1, 100, []) := by decide +kernel
theorem sh_8 : k_sh 8 = (1, 18, []) := by decide +kernel
theorem sh_9 : k_sh 9 = (0, 5, [2, 2, 2, 2, 2, 0]) := by decide +kernel
theorem sh_10 : k_sh 10 = (1, 100, []) := by decide +kernel
theorem sh_11 : k_sh 11 = (1, 1800, []) := by decide +kernel
theorem sh_12 : k_sh 12 = (1, 100, []) := by decide +kernel
theorem sh_13 : k_sh 13 = (2, 100, []) := by decide +kernel
theorem sh_14 : k_sh 14 = (2, 100, []) := by decide +kernel
theorem sh_15 : k_sh 15 = (0, 0, [2, 2, 2, 0]) := by decide +kernel
theorem sh_16 : k_sh 16 = (1, 12, []) := by decide +kernel
theorem sh_17 : k_sh 17 = (1, 12, []) := by decide +kernel
theorem sh_18 : k_sh 18 = (1, 240, []) := by decide +kernel
theorem sh_19 : k_sh 19 = (1, 40, []) := by decide +kernel
theorem sh_20 : k_sh 20 = (0, 6, [2, 2, 2, 2, 0, 0, 0]) := by decide +kernel
theorem sh_21 : k_sh 21 = (0, 4, [2, 2, 2, 2, 2, 0, 0, 2]) := by decide +kernel
theorem sh_22 : k_sh 22 = (1, 100, []) := by decide +kernel
theorem sh_23 : k_sh 23 = (1, 100, []) := by decide +kernel
theorem sh_24 : k_sh 24 = (1, 1800, []) := by decide +kernel
theorem sh_25 : k_sh 25 = (1, 100, []) := by decide +kernel
theorem sh_26 : k_sh 26 = (1, 100, []) := by decide +kernel
theorem sh_27 : k_sh 27 = (1, 18, []) := by decide +kernel
theorem sh_28 : k_sh 28 = (0, 5, [2, 2, 2, 2, 2, 0]) := by decide +kernel
theorem sh_29 : k_sh 29 = (1, 100, []) := by decide +kernel
theorem sh_30 : k_sh 30 = (1, 1800, []) := by decide +kernel
theorem sh_31 : k_sh 31 = (1, 100, []) := by decide +kernel
theorem sh_32 : k_sh 32 = (2, 100, []) := by decide +kernel
theorem sh_33 : k_sh 33 = (2, 100, []) := by decide +kernel
theorem sh_34 : k_sh 34 = (0, 0, [2, 2, 2, 0]) := by decide +kernel
theorem sh_35 : k_sh 35 = (1, 12, []) := by decide +kernel
theorem sh_36 : k_sh 36 = (1, 12, []) := by decide +kernel
theorem sh_37 : k_sh 37 = (1, 240, []) := by decide +kernel
theorem sh_38 : k_sh 38 = (1, 40, []) := by decide +kernel
theorem sh_39 : k_sh 39 = (0, 8, [2, 0]) := by decide +kernel
theorem sh_40 : k_sh 40 = (0, 7, [2, 0]) := by decide +kernel
theorem sh_41 : k_sh 41 = (1, 40, []) := by decide +kernel
theorem sh_42 : k_sh 42 = (0, 8, [2, 0]) := by decide +kernel
theorem sh_43 : k_sh 43 = (0, 7, [2, 0]) := by decide +kernel
theorem sh_44 : k_sh 44 = (1, 40, []) := by decide +kernel
theorem sh_45 : k_sh 45 = (0, 3, [0, 0, 0, 0, 0, 2, 0, 0, 2, 2, 0, 0, 2, 2, 2, 2]) := by decide +kernel
theorem sh_46 : k_sh 46 = (1, 6, []) := by decide +kernel
theorem sh_47 : k_sh 47 = (1, 6, []) := by decide +kernel
theorem sh_48 : k_sh 48 = (1, 6, []) := by decide +kernel
theorem sh_49 : k_sh 49 = (1, 6, []) := by decide +kernel
theorem sh_50 : k_sh 50 = (1, 30, []) := by decide +kernel
theorem sh_51 : k_sh 51 = (1, 30, []) := by decide +kernel
theorem sh_52 : k_sh 52 = (3, 6, []) := by decide +kernel
theorem sh_53 : k_sh 53 = (1, 30, []) := by decide +kernel
theorem sh_54 : k_sh 54 = (1, 30, []) := by decide +kernel
theorem sh_55 : k_sh 55 = (1, 30, []) := by decide +kernel
theorem sh_56 : k_sh 56 = (1, 30, []) := by decide +kernel
theorem sh_57 : k_sh 57 = (1, 30, []) := by decide +kernel
theorem sh_58 : k_sh 58 = (1, 30, []) := by decide +kernel
theorem sh_59 : k_sh 59 = (0, 2, [2, 2, 2]) := by decide +kernel
theorem sh_60 : k_sh 60 = (1, 18, []) := by decide +kernel
theorem sh_61 : k_sh 61 = (2, 10, []) := by decide +kernel
theorem sh_62 : k_sh 62 = (2, 10, []) := by decide +kernel
theorem sh_63 : k_sh 63 = (0, 1, [2, 2, 0, 0, 0, 0]) := by decide +kernel
theorem sh_64 : k_sh 64 = (1, 14, []) := by decide +kernel
theorem sh_65 : k_sh 65 = (1, 15, []) := by decide +kernel
theorem sh_66 : k_sh 66 = (0, 10, [2, 2, 0, 0, 0, 0, 0, 0, 2, 0, 0, 2, 2, 2, 0, 2, 2, 2, 2, 2, 0, 2, 2]) := by decide +kernel
theorem sh_67 : k_sh 67 = (1, 8530, []) := by decide +kernel
theorem sh_68 : k_sh 68 = (1, 8530, []) := by decide +kernel
theorem sh_69 : k_sh 69 = (1, 40, []) := by decide +kernel
theorem sh_70 : k_sh 70 = (1, 30, []) := by decide +kernel
theorem sh_71 : k_sh 71 = (1, 30, []) := by decide +kernel
theorem sh_72 : k_sh 72 = (1, 6, []) := by decide +kernel
theorem sh_73 : k_sh 73 = (1, 36, []) := by decide +kernel
theorem sh_74 : k_sh 74 = (1, 30, []) := by decide +kernel
theorem sh_75 : k_sh 75 = (1, 18, []) := by decide +kernel
theorem sh_76 : k_sh 76 = (2, 10, []) := by decide +kernel
theorem sh_77 : k_sh 77 = (2, 10, []) := by decide +kernel
theorem sh_78 : k_sh 78 = (1, 14, []) := by decide +kernel
theorem sh_79 : k_sh 79 = (1, 16384, []) := by decide +kernel
theorem rf_0_0 (τ : kT) : k_R τ 0 0 = some 1 := rfl
theorem rf_0_1 (τ : kT) : k_R τ 0 1 = some 20 := rfl
theorem rf_0_6 (τ : kT) : k_R τ 0 6 = some 39 := rfl
theorem rf_0_7 (τ : kT) : k_R τ 0 7 = some 42 := rfl
theorem rf_0_8 (τ : kT) : k_R τ 0 8 = some 45 := rfl
theorem rf_0_9 (τ : kT) : k_R τ 0 9 = some 59 := rfl
theorem rf_0_10 (τ : kT) : k_R τ 0 10 = some 63 := rfl
theorem rf_1_0 (τ : kT) : k_R τ 1 0 = some 2 := rfl
theorem rf_1_1 (τ : kT) : k_R τ 1 1 = some 9 := rfl
theorem rf_1_2 (τ : kT) : k_R τ 1 2 = some 15 := rfl
theorem rf_1_3 (τ : kT) : k_R τ 1 3 = some 19 := rfl
theorem rf_2_0 (τ : kT) : k_R τ 2 0 = some 3 := rfl
theorem rf_2_1 (τ : kT) : k_R τ 2 1 = some 4 := rfl
theorem rf_2_2 (τ : kT) : k_R τ 2 2 = some 5 := rfl
theorem rf_2_3 (τ : kT) : k_R τ 2 3 = some 6 := rfl
theorem rf_2_4 (τ : kT) : k_R τ 2 4 = some 7 := rfl
theorem rf_2_7 (τ : kT) : k_R τ 2 7 = some 8 := rfl
theorem rf_9_0 (τ : kT) : k_R τ 9 0 = some 10 := rfl
theorem rf_9_1 (τ : kT) : k_R τ 9 1 = some 11 := rfl
theorem rf_9_2 (τ : kT) : k_R τ 9 2 = some 12 := rfl
theorem rf_9_3 (τ : kT) : k_R τ 9 3 = some 13 := rfl
theorem rf_9_4 (τ : kT) : k_R τ 9 4 = some 14 := rfl
theorem rf_15_0 (τ : kT) : k_R τ 15 0 = some 16 := rfl
theorem rf_15_1 (τ : kT) : k_R τ 15 1 = some 17 := rfl
theorem rf_15_2 (τ : kT) : k_R τ 15 2 = some 18 := rfl
theorem rf_20_0 (τ : kT) : k_R τ 20 0 = some 21 := rfl
theorem rf_20_1 (τ : kT) : k_R τ 20 1 = some 28 := rfl
theorem rf_20_2 (τ : kT) : k_R τ 20 2 = some 34 := rfl
theorem rf_20_3 (τ : kT) : k_R τ 20 3 = some 38 := rfl
theorem rf_21_0 (τ : kT) : k_R τ 21 0 = some 22 := rfl
theorem rf_21_1 (τ : kT) : k_R τ 21 1 = some 23 := rfl
theorem rf_21_2 (τ : kT) : k_R τ 21 2 = some 24 := rfl
theorem rf_21_3 (τ : kT) : k_R τ 21 3 = some 25 := rfl
theorem rf_21_4 (τ : kT) : k_R τ 21 4 = some 26 := rfl
theorem rf_21_7 (τ : kT) : k_R τ 21 7 = some 27 := rfl
theorem rf_28_0 (τ : kT) : k_R τ 28 0 = some 29 := rfl
theorem rf_28_1 (τ : kT) : k_R τ 28 1 = some 30 := rfl
theorem rf_28_2 (τ : kT) : k_R τ 28 2 = some 31 := rfl
theorem rf_28_3 (τ : kT) : k_R τ 28 3 = some 32 := rfl
theorem rf_28_4 (τ : kT) : k_R τ 28 4 = some 33 := rfl
theorem rf_34_0 (τ : kT) : k_R τ 34 0 = some 35 := rfl
theorem rf_34_1 (τ : kT) : k_R τ 34 1 = some 36 := rfl
theorem rf_34_2 (τ : kT) : k_R τ 34 2 = some 37 := rfl
theorem rf_39_0 (τ : kT) : k_R τ 39 0 = some 40 := rfl
theorem rf_40_0 (τ : kT) : k_R τ 40 0 = some 41 := rfl
theorem rf_42_0 (τ : kT) : k_R τ 42 0 = some 43 := rfl
theorem rf_43_0 (τ : kT) : k_R τ 43 0 = some 44 := rfl
theorem rf_45_5 (τ : kT) : k_R τ 45 5 = some 46 := rfl
theorem rf_45_8 (τ : kT) : k_R τ 45 8 = some 47 := rfl
theorem rf_45_9 (τ : kT) : k_R τ 45 9 = some 48 := rfl
theorem rf_45_12 (τ : kT) : k_R τ 45 12 = some 49 := rfl
theorem rf_45_13 (τ : kT) : k_R τ 45 13 = some 50 := rfl
theorem rf_45_14 (τ : kT) : k_R τ 45 14 = some 51 := rfl
theorem rf_45_15 (τ : kT) : k_R τ 45 15 = some 52 := rfl
theorem rf_59_0 (τ : kT) : k_R τ 59 0 = some 60 := rfl
theorem rf_63_0 (τ : kT) : k_R τ 63 0 = some 64 := rfl
theorem rf_63_1 (τ : kT) : k_R τ 63 1 = some 65 := rfl
theorem rf_66_0 (τ : kT) : k_R τ 66 0 = some 67 := rfl
theorem rf_66_1 (τ : kT) : k_R τ 66 1 = some 68 := rfl
theorem rf_66_8 (τ : kT) : k_R τ 66 8 = some 69 := rfl
theorem rf_66_11 (τ : kT) : k_R τ 66 11 = some 70 := rfl
theorem rf_66_12 (τ : kT) : k_R τ 66 12 = some 71 := rfl
theorem rf_66_13 (τ : kT) : k_R τ 66 13 = some 72 := rfl
theorem rf_66_15 (τ : kT) : k_R τ 66 15 = some 73 := rfl
theorem rf_66_16 (τ : kT) : k_R τ 66 16 = some 74 := rfl
theorem rf_66_17 (τ : kT) : k_R τ 66 17 = some 75 := rfl
theorem rf_66_18 (τ : kT) : k_R τ 66 18 = some 76 := rfl
theorem rf_66_19 (τ : kT) : k_R τ 66 19 = some 77 := rfl
theorem rf_66_21 (τ : kT) : k_R τ 66 21 = some 78 := rfl
theorem rf_66_22 (τ : kT) : k_R τ 66 22 = some 79 := rfl
theorem rf_59_1 (τ : kT) : k_R τ 59 1 = some (q_c1 τ) := rfl
theorem rf_59_2 (τ : kT) : k_R τ 59 2 = some (q_c2 τ) := rfl
theorem aX10_335 : Cond.methodLink RX10 335 Lib.Math.min.name ∈ lw_g ∧ Cond.static Lib.Math.min.name ∈ lw_g ∧ Cond.initialized "java/lang/Math" ∈ lw_g ∧ Cond.code Lib.Math.min.name Lib.Math.min.code 2 (some .int) ∈ lw_g := ⟨k_wd4 53 (by decide +kernel) rfl, k_wd4 54 (by decide +kernel) rfl, k_wd1 15 (by decide +kernel) rfl, k_wd4 55 (by decide +kernel) rfl⟩
theorem aX2_67 : Cond.methodLink RX2 67 Lib.Math.min.name ∈ lw_g ∧ Cond.static Lib.Math.min.name ∈ lw_g ∧ Cond.initialized "java/lang/Math" ∈ lw_g ∧ Cond.code Lib.Math.min.name Lib.Math.min.code 2 (some .int) ∈ lw_g := ⟨k_wd4 156 (by decide +kernel) rfl, k_wd4 54 (by decide +kernel) rfl, k_wd1 15 (by decide +kernel) rfl, k_wd4 55 (by decide +kernel) rfl⟩
theorem aX2_72 : Cond.methodLink RX2 72 Lib.Math.max.name ∈ lw_g ∧ Cond.static Lib.Math.max.name ∈ lw_g ∧ Cond.initialized "java/lang/Math" ∈ lw_g ∧ Cond.code Lib.Math.max.name Lib.Math.max.code 2 (some .int) ∈ lw_g := ⟨k_wd4 157 (by decide +kernel) rfl, k_wd4 158 (by decide +kernel) rfl, k_wd1 15 (by decide +kernel) rfl, k_wd4 159 (by decide +kernel) rfl⟩
theorem aX3_111 : Cond.methodLink RX3 111 Lib.Math.abs.name ∈ lw_g ∧ Cond.static Lib.Math.abs.name ∈ lw_g ∧ Cond.initialized "java/lang/Math" ∈ lw_g ∧ Cond.code Lib.Math.abs.name Lib.Math.abs.code 1 (some .int) ∈ lw_g := ⟨k_wd4 85 (by decide +kernel) rfl, k_wd4 86 (by decide +kernel) rfl, k_wd1 15 (by decide +kernel) rfl, k_wd4 87 (by decide +kernel) rfl⟩
