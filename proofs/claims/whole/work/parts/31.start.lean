def q_0 : kT := (q_si (q_si (q_si (q_si (q_si (q_si (q_si ((fun _ _ => 0, fun _ _ => 0) : kT) 2 6 (-1)) 21 6 (-1)) 39 1 (-1)) 42 1 (-1)) 66 6 (-1)) 66 7 (-1)) 67 8528 (-1))
def k_S0 : kS := (fun _ _ => 0, fun _ _ => 0, fun _ _ => none)
def k_Sf : kS := C_X11_66 (k_new (C_X10_0 (k_new k_S0 0)) 66)
set_option maxRecDepth 100000 in
set_option maxHeartbeats 4000000 in
theorem k_Sf_ok : ∀ x, x < 80 → k_i k_Sf x = k_i (k_up q_0) x ∧ k_l k_Sf x = k_l (k_up q_0) x ∧ k_r k_Sf x = k_r (k_up q_0) x
  | 0, _ => ⟨(by show (upd (upd (upd (upd (fun _ => 0) 2 (0)) 3 (0)) 4 (0)) 5 (0)) = (fun _ => 0); funext k; simp [upd]), rfl, (by show (va_up (va_up (va_up (va_up (va_up (va_up (va_up (fun _ => none : Nat → Option Nat) 0 (some 1)) 1 (some 20)) 6 (some 39)) 7 (some 42)) 8 (some 45)) 9 (some 59)) 10 (some 63)) = k_R q_0 0; funext k; exact match k with | 0 => rfl | 1 => rfl | 2 => rfl | 3 => rfl | 4 => rfl | 5 => rfl | 6 => rfl | 7 => rfl | 8 => rfl | 9 => rfl | 10 => rfl | k + 11 => by simp [va_up]; rfl)⟩
  | 1, _ => ⟨(by show (upd (upd (upd (fun _ => 0) 4 (0)) 5 (0)) 6 (0)) = (fun _ => 0); funext k; simp [upd]), rfl, (by show (va_up (va_up (va_up (va_up (fun _ => none : Nat → Option Nat) 0 (some 2)) 1 (some 9)) 2 (some 15)) 3 (some 19)) = k_R q_0 1; funext k; exact match k with | 0 => rfl | 1 => rfl | 2 => rfl | 3 => rfl | 4 => rfl | 5 => rfl | 6 => rfl | k + 7 => by simp [va_up]; rfl)⟩
  | 2, _ => ⟨(by show (upd (upd (fun _ => 0) 5 (0)) 6 (-1)) = (upd (fun _ => 0) 6 (-1)); funext k; simp [upd]), rfl, (by show (va_up (va_up (va_up (va_up (va_up (va_up (fun _ => none : Nat → Option Nat) 0 (some 3)) 1 (some 4)) 2 (some 5)) 3 (some 6)) 4 (some 7)) 7 (some 8)) = k_R q_0 2; funext k; exact match k with | 0 => rfl | 1 => rfl | 2 => rfl | 3 => rfl | 4 => rfl | 5 => rfl | 6 => rfl | 7 => rfl | k + 8 => by simp [va_up]; rfl)⟩
  | 3, _ => ⟨rfl, rfl, rfl⟩
  | 4, _ => ⟨rfl, rfl, rfl⟩
  | 5, _ => ⟨rfl, rfl, rfl⟩
  | 6, _ => ⟨rfl, rfl, rfl⟩
  | 7, _ => ⟨rfl, rfl, rfl⟩
  | 8, _ => ⟨rfl, rfl, rfl⟩
  | 9, _ => ⟨(by show (upd (fun _ => 0) 5 (0)) = (fun _ => 0); funext k; simp [upd]), rfl, (by show (va_up (va_up (va_up (va_up (va_up (fun _ => none : Nat → Option Nat) 0 (some 10)) 1 (some 11)) 2 (some 12)) 3 (some 13)) 4 (some 14)) = k_R q_0 9; funext k; exact match k with | 0 => rfl | 1 => rfl | 2 => rfl | 3 => rfl | 4 => rfl | 5 => rfl | k + 6 => by simp [va_up]; rfl)⟩
  | 10, _ => ⟨rfl, rfl, rfl⟩
  | 11, _ => ⟨rfl, rfl, rfl⟩
  | 12, _ => ⟨rfl, rfl, rfl⟩
  | 13, _ => ⟨rfl, rfl, rfl⟩
  | 14, _ => ⟨rfl, rfl, rfl⟩
  | 15, _ => ⟨(by show (upd (fun _ => 0) 3 (0)) = (fun _ => 0); funext k; simp [upd]), rfl, (by show (va_up (va_up (va_up (fun _ => none : Nat → Option Nat) 0 (some 16)) 1 (some 17)) 2 (some 18)) = k_R q_0 15; funext k; exact match k with | 0 => rfl | 1 => rfl | 2 => rfl | 3 => rfl | k + 4 => by simp [va_up]; rfl)⟩
  | 16, _ => ⟨rfl, rfl, rfl⟩
  | 17, _ => ⟨rfl, rfl, rfl⟩
  | 18, _ => ⟨rfl, rfl, rfl⟩
  | 19, _ => ⟨rfl, rfl, rfl⟩
  | 20, _ => ⟨(by show (upd (upd (upd (fun _ => 0) 4 (0)) 5 (0)) 6 (0)) = (fun _ => 0); funext k; simp [upd]), rfl, (by show (va_up (va_up (va_up (va_up (fun _ => none : Nat → Option Nat) 0 (some 21)) 1 (some 28)) 2 (some 34)) 3 (some 38)) = k_R q_0 20; funext k; exact match k with | 0 => rfl | 1 => rfl | 2 => rfl | 3 => rfl | 4 => rfl | 5 => rfl | 6 => rfl | k + 7 => by simp [va_up]; rfl)⟩
  | 21, _ => ⟨(by show (upd (upd (fun _ => 0) 5 (0)) 6 (-1)) = (upd (fun _ => 0) 6 (-1)); funext k; simp [upd]), rfl, (by show (va_up (va_up (va_up (va_up (va_up (va_up (fun _ => none : Nat → Option Nat) 0 (some 22)) 1 (some 23)) 2 (some 24)) 3 (some 25)) 4 (some 26)) 7 (some 27)) = k_R q_0 21; funext k; exact match k with | 0 => rfl | 1 => rfl | 2 => rfl | 3 => rfl | 4 => rfl | 5 => rfl | 6 => rfl | 7 => rfl | k + 8 => by simp [va_up]; rfl)⟩
  | 22, _ => ⟨rfl, rfl, rfl⟩
  | 23, _ => ⟨rfl, rfl, rfl⟩
  | 24, _ => ⟨rfl, rfl, rfl⟩
  | 25, _ => ⟨rfl, rfl, rfl⟩
  | 26, _ => ⟨rfl, rfl, rfl⟩
  | 27, _ => ⟨rfl, rfl, rfl⟩
  | 28, _ => ⟨(by show (upd (fun _ => 0) 5 (0)) = (fun _ => 0); funext k; simp [upd]), rfl, (by show (va_up (va_up (va_up (va_up (va_up (fun _ => none : Nat → Option Nat) 0 (some 29)) 1 (some 30)) 2 (some 31)) 3 (some 32)) 4 (some 33)) = k_R q_0 28; funext k; exact match k with | 0 => rfl | 1 => rfl | 2 => rfl | 3 => rfl | 4 => rfl | 5 => rfl | k + 6 => by simp [va_up]; rfl)⟩
  | 29, _ => ⟨rfl, rfl, rfl⟩
  | 30, _ => ⟨rfl, rfl, rfl⟩
  | 31, _ => ⟨rfl, rfl, rfl⟩
  | 32, _ => ⟨rfl, rfl, rfl⟩
  | 33, _ => ⟨rfl, rfl, rfl⟩
  | 34, _ => ⟨(by show (upd (fun _ => 0) 3 (0)) = (fun _ => 0); funext k; simp [upd]), rfl, (by show (va_up (va_up (va_up (fun _ => none : Nat → Option Nat) 0 (some 35)) 1 (some 36)) 2 (some 37)) = k_R q_0 34; funext k; exact match k with | 0 => rfl | 1 => rfl | 2 => rfl | 3 => rfl | k + 4 => by simp [va_up]; rfl)⟩
  | 35, _ => ⟨rfl, rfl, rfl⟩
  | 36, _ => ⟨rfl, rfl, rfl⟩
  | 37, _ => ⟨rfl, rfl, rfl⟩
  | 38, _ => ⟨rfl, rfl, rfl⟩
  | 39, _ => ⟨rfl, rfl, (by show (va_up (fun _ => none : Nat → Option Nat) 0 (some 40)) = k_R q_0 39; funext k; exact match k with | 0 => rfl | 1 => rfl | k + 2 => by simp [va_up]; rfl)⟩
  | 40, _ => ⟨(by show (upd (fun _ => 0) 1 (0)) = (fun _ => 0); funext k; simp [upd]), rfl, (by show (va_up (fun _ => none : Nat → Option Nat) 0 (some 41)) = k_R q_0 40; funext k; exact match k with | 0 => rfl | 1 => rfl | k + 2 => by simp [va_up]; rfl)⟩
  | 41, _ => ⟨rfl, rfl, rfl⟩
  | 42, _ => ⟨rfl, rfl, (by show (va_up (fun _ => none : Nat → Option Nat) 0 (some 43)) = k_R q_0 42; funext k; exact match k with | 0 => rfl | 1 => rfl | k + 2 => by simp [va_up]; rfl)⟩
  | 43, _ => ⟨(by show (upd (fun _ => 0) 1 (0)) = (fun _ => 0); funext k; simp [upd]), rfl, (by show (va_up (fun _ => none : Nat → Option Nat) 0 (some 44)) = k_R q_0 43; funext k; exact match k with | 0 => rfl | 1 => rfl | k + 2 => by simp [va_up]; rfl)⟩
  | 44, _ => ⟨rfl, rfl, rfl⟩
  | 45, _ => ⟨(by show (upd (fun _ => 0) 0 (0)) = (fun _ => 0); funext k; simp [upd]), rfl, (by show (va_up (va_up (va_up (va_up (va_up (va_up (va_up (fun _ => none : Nat → Option Nat) 5 (some 46)) 8 (some 47)) 9 (some 48)) 12 (some 49)) 13 (some 50)) 14 (some 51)) 15 (some 52)) = k_R q_0 45; funext k; exact match k with | 0 => rfl | 1 => rfl | 2 => rfl | 3 => rfl | 4 => rfl | 5 => rfl | 6 => rfl | 7 => rfl | 8 => rfl | 9 => rfl | 10 => rfl | 11 => rfl | 12 => rfl | 13 => rfl | 14 => rfl | 15 => rfl | k + 16 => by simp [va_up]; rfl)⟩
  | 46, _ => ⟨rfl, rfl, rfl⟩
  | 47, _ => ⟨rfl, rfl, rfl⟩
  | 48, _ => ⟨rfl, rfl, rfl⟩
  | 49, _ => ⟨rfl, rfl, rfl⟩
  | 50, _ => ⟨rfl, rfl, rfl⟩
  | 51, _ => ⟨rfl, rfl, rfl⟩
  | 52, _ => ⟨rfl, rfl, rfl⟩
  | 53, _ => ⟨rfl, rfl, rfl⟩
  | 54, _ => ⟨rfl, rfl, rfl⟩
  | 55, _ => ⟨rfl, rfl, rfl⟩
  | 56, _ => ⟨rfl, rfl, rfl⟩
  | 57, _ => ⟨rfl, rfl, rfl⟩
  | 58, _ => ⟨rfl, rfl, rfl⟩
  | 59, _ => ⟨rfl, rfl, (by show (va_up (va_up (va_up (fun _ => none : Nat → Option Nat) 0 (some 60)) 1 (some 61)) 2 (some 62)) = k_R q_0 59; funext k; exact match k with | 0 => rfl | 1 => rfl | 2 => rfl | k + 3 => by simp [va_up]; rfl)⟩
  | 60, _ => ⟨rfl, rfl, rfl⟩
  | 61, _ => ⟨rfl, rfl, rfl⟩
  | 62, _ => ⟨rfl, rfl, rfl⟩
  | 63, _ => ⟨rfl, rfl, (by show (va_up (va_up (fun _ => none : Nat → Option Nat) 0 (some 64)) 1 (some 65)) = k_R q_0 63; funext k; exact match k with | 0 => rfl | 1 => rfl | 2 => rfl | 3 => rfl | 4 => rfl | 5 => rfl | k + 6 => by simp [va_up]; rfl)⟩
  | 64, _ => ⟨rfl, rfl, rfl⟩
  | 65, _ => ⟨rfl, rfl, rfl⟩
  | 66, _ => ⟨rfl, rfl, (by show (va_up (va_up (va_up (va_up (va_up (va_up (va_up (va_up (va_up (va_up (va_up (va_up (va_up (fun _ => none : Nat → Option Nat) 0 (some 67)) 1 (some 68)) 8 (some 69)) 11 (some 70)) 12 (some 71)) 13 (some 72)) 15 (some 73)) 16 (some 74)) 17 (some 75)) 18 (some 76)) 19 (some 77)) 21 (some 78)) 22 (some 79)) = k_R q_0 66; funext k; exact match k with | 0 => rfl | 1 => rfl | 2 => rfl | 3 => rfl | 4 => rfl | 5 => rfl | 6 => rfl | 7 => rfl | 8 => rfl | 9 => rfl | 10 => rfl | 11 => rfl | 12 => rfl | 13 => rfl | 14 => rfl | 15 => rfl | 16 => rfl | 17 => rfl | 18 => rfl | 19 => rfl | 20 => rfl | 21 => rfl | 22 => rfl | k + 23 => by simp [va_up]; rfl)⟩
  | 67, _ => ⟨rfl, rfl, rfl⟩
  | 68, _ => ⟨rfl, rfl, rfl⟩
  | 69, _ => ⟨rfl, rfl, rfl⟩
  | 70, _ => ⟨rfl, rfl, rfl⟩
  | 71, _ => ⟨rfl, rfl, rfl⟩
  | 72, _ => ⟨rfl, rfl, rfl⟩
  | 73, _ => ⟨rfl, rfl, rfl⟩
  | 74, _ => ⟨rfl, rfl, rfl⟩
  | 75, _ => ⟨rfl, rfl, rfl⟩
  | 76, _ => ⟨rfl, rfl, rfl⟩
  | 77, _ => ⟨rfl, rfl, rfl⟩
  | 78, _ => ⟨rfl, rfl, rfl⟩
  | 79, _ => ⟨rfl, rfl, rfl⟩
  | x + 80, h => absurd h (by omega)
theorem v_noal {y : MethodName} {cc : ByteArray} {mx : Nat} {ret : Option FieldType} {d n nf b : Nat} {al alr : Prop} {X : Nat × (Nat → Int32)} {pc : Nat} {ls : List (Option Value)} {st : List Value} {σ : kS} {post : Option Value → kS → Prop} (kk : V y cc mx ret d (n, nf, b, False, alr, X) pc ls st σ post) : V y cc mx ret d (n, nf, b, al, alr, X) pc ls st σ post := by
  refine ⟨fun C w hS hR L hL => ?_, trivial⟩
  obtain ⟨c1, c2, c3, c4, c5, hts, hNw, hK, hz, had, hsc, hfr, hlo, hce, hsl, hmc, hms⟩ := id C
  exact kk.1 ⟨c1, c2, c3, c4, c5, hts, hNw, hK, hz, fun h => h.elim, hsc, hfr, hlo, hce, hsl, hmc, hms⟩ ⟨w.1, w.2.1, fun h => h.elim⟩ hS hR L hL
theorem v_eqv80 {y : MethodName} {cc : ByteArray} {mx : Nat} {ret : Option FieldType} {d : Nat} {E : kE} {pc : Nat} {ls : List (Option Value)} {st : List Value} {σ σ2 : kS} {post : Option Value → kS → Prop} (h : ∀ ad cA x, x < E.1 → k_ce ad cA σ x = k_ce ad cA σ2 x) (kk : V y cc mx ret d E pc ls st σ2 post) : V y cc mx ret d E pc ls st σ post := by
  refine ⟨@fun p l e R s m args below meth c H locs cells slots mc ms Q D z ad cA C w hS hR L hL => ?_, trivial⟩
  have e : k_W ad cA E.1 σ = k_W ad cA E.1 σ2 := by
    unfold k_W
    apply List.map_congr_left
    intro i hi
    rw [h ad cA i (List.mem_range.mp hi)]
  unfold k_World at w
  rw [e] at w
  exact kk.1 C w hS hR L hL
set_option maxRecDepth 100000 in
set_option maxHeartbeats 4000000 in
theorem law_entry {J : kT → Prop} (hK : K_all J) (hJ : J q_0) {N : Nat} {xs : Nat → Int32} (hN : N ≤ 3072) : V yL_law cL_law 4 (some .boolean) 72 (0, 80, 43646, True, False, N + 1, xs) 0 [some (.ref 1000), none, none, none] [] k_S0 (fun v _ => v = some (.int 1)) := by
  refine v_new kNL_7 dL_law_0 sh_0 trivial (by decide) (by decide) ?_
  refine v_E (E2 := (1, 80, 43635, True, False, N + 1, xs)) rfl ?_
  refine v_dup dL_law_3 rfl ?_
  refine v_callI mX10_init jX10_init rfl lL_9 dL_law_4 trivial (Nat.le_of_ble_eq_true rfl) (by decide) (by decide : 1 ≤ 66 ∧ 66 ≤ 80 ∧ 9944 ≤ 43635) (c_X10_0 (d := 68) ?_)
  refine v_E (E2 := (66, 80, 33691, True, False, N + 1, xs)) rfl ?_
  refine v_astore_n dL_law_7 rfl (by decide) rfl ?_
  refine v_ls (ls2 := [some (.ref 1000), some (.ref 0), none, none]) rfl ?_
  refine v_new kNL_10 dL_law_8 sh_66 trivial (by decide) (by decide) ?_
  refine v_E (E2 := (67, 80, 33668, True, False, N + 1, xs)) rfl ?_
  refine v_dup dL_law_11 rfl ?_
  refine v_callI mX11_init jX11_init rfl lL_12 dL_law_12 trivial (Nat.le_of_ble_eq_true rfl) (by decide) (by decide : 67 ≤ 80 ∧ 80 ≤ 80 ∧ 33668 ≤ 33668) (c_X11_66 (d := 70) ?_)
  refine v_E (E2 := (80, 80, 0, True, False, N + 1, xs)) rfl ?_
  refine v_astore_n dL_law_15 rfl (by decide) rfl ?_
  refine v_ls (ls2 := [some (.ref 1000), some (.ref 0), some (.ref 66), none]) rfl ?_
  refine v_iconst (v := 0) dL_law_16 (by decide) ?_
  refine v_istore_n dL_law_17 rfl (by decide) rfl ?_
  refine v_ls (ls2 := lLs (nI 0)) rfl ?_
  refine v_noal ?_
  refine v_eqv80 (σ2 := k_up q_0) (fun ad cA x hx => ?_) (law_loop (d := 0) hK hN (N + 1) 0 q_0 (by omega) (by omega) hJ)
  obtain ⟨h1, h2, h3⟩ := k_Sf_ok x hx
  exact k_ce_same h1 h2 h3
def R_law : String := "KeyShopLaw"
def lw_P (b : Addr) (xs : List Int32) (args : Array Value) (s : State) : Prop := args = #[.ref b] ∧ s.IntsAt b xs ∧ xs.length ≤ 3072 ∧ (Jvm.Cond.and given_1 narrow_1).before args s = true
def lw_Q (_ : Array Value) (s : State) (o : Outcome) (t : State) : Prop := o = .returned (some (.int 1)) ∧ Framed s o t [] 600000 7302250
def lw_Z (below : List Frame) (a : Array Value) (s : State) : State → Prop := fun t => ∃ o, t.status = .running ∧ Ended t below o ∧ lw_Q a s o t
/-- the law's own end, with 1 on the stack, nothing written that was there before, its room as the claim has it -/
theorem lw_ret {p : Program} {l : Launch} {e : Env} {s : State} {m : MethodId} {below : List Frame} {meth : Method} {c : Code} {b : Nat} (hx : p.tables.exec = Jvm.exec) (hb : c.code = code) (hr : meth.sig.returnType = ret) (hlocks : meth.locks = false) {pc : Nat} {H : Heap} {ls : Array Slot} (hdg : decode code pc = .ok (.ireturn, 1)) : W p l e room_1 s m #[Value.ref b] below meth c H [] 600000 7302250 (lw_Z below #[Value.ref b] s) (F0 m pc ls [.int 1]) := by
  intro T hT X
  obtain ⟨fs, hret, hrun, hended, hW, hframe⟩ := X.leave (v := some (.int 1)) (hlocks := hlocks) (fun h => by rw [hr] at h; cases h)
  have hmeth' : T.vm.method? m = some meth := X.method'
  refine ⟨T.setFrames fs, ?_, .returned (some (.int 1)), hrun, hended, rfl, ⟨_, rfl⟩, hW, hframe⟩
  jvm_step X.here [X.here.top, hx, hb, hdg, hmeth', hr, ret, narrow_b1]
  (try refine ⟨rfl, ?_⟩); (try refine ⟨rfl, ?_⟩)
  first | (intro acts; rw [hret _ acts rfl rfl rfl]) | rw [hret _ _ rfl rfl rfl]
  exact Steps.refl _
/-- what holds at the law's entry: the machine, the code, the tables' words (any of lw_tbl by 'hts w (by decide +kernel)'), the script of L ints xs at the cell b, what the Statement gives of the start (any of its parts by flat_of_before) -/
def lw_At (p : Program) (s : State) (m : MethodId) (meth : Method) (c : Code) (b L : Nat) (xs : Nat → Int32) : Prop :=
  p.tables.exec = Jvm.exec ∧ c.code = code ∧ meth.sig.returnType = ret ∧ c.maxLocals = 4 ∧ s.vm.findClass R_law = some m.cls ∧ (∀ w ∈ lw_tbl, w.before #[Value.ref b] s = true) ∧ va_X b L xs s s.heap ∧ b < s.heap.size ∧ meth.locks = false ∧ (Jvm.Cond.and given_1 narrow_1).before #[Value.ref b] s = true

set_option maxRecDepth 100000 in
set_option maxHeartbeats 4000000 in
theorem whole_start_open {J : kT → Prop} (hKa : K_all J) (hJ : J q_0) {p : Program} {e : Env} {s : State} {m : MethodId} {below : List Frame} {meth : Method} {c : Code} (l : Launch) {b L : Nat} {xs : Nat → Int32} (hL : L ≤ 3072) (C0 : lw_At p s m meth c b L xs) : W p l e room_1 s m #[Value.ref b] below meth c s.heap [] 0 0 (lw_Z below #[Value.ref b] s) (entryFrame m ([Value.ref b] : List Value).toArray 4) := by
  obtain ⟨hx, hb, hr, hml, hown, hts0, hX, hbl, hlocks, hgv⟩ := id C0
  have hts : ∀ w ∈ lw_g, w.before #[Value.ref b] s = true := fun w h => hts0 w (List.mem_filter.mp h).1
  obtain ⟨c0, iS0, hKn0⟩ := u_known (C := RX0) (T := TX0) (N := 4) (n := 4) hts uX0 (hts _ (k_wd1 111 (by decide +kernel) rfl))
  obtain ⟨c1, iS1, hKn1⟩ := u_known (C := RX1) (T := TX1) (N := 6) (n := 6) hts uX1 (hts _ (k_wd2 30 (by decide +kernel) rfl))
  obtain ⟨c2, iS2, hKn2⟩ := u_known (C := RX2) (T := TX2) (N := 3) (n := 3) hts uX2 (hts _ (k_wd2 14 (by decide +kernel) rfl))
  obtain ⟨c3, iS3, hKn3⟩ := u_known (C := RX3) (T := TX3) (N := 16) (n := 16) hts uX3 (hts _ (k_wd1 196 (by decide +kernel) rfl))
  obtain ⟨c4, iS4, hKn4⟩ := u_known (C := RX4) (T := TX4) (N := 8) (n := 8) hts uX4 (hts _ (k_wd1 31 (by decide +kernel) rfl))
  obtain ⟨c5, iS5, hKn5⟩ := u_known (C := RX5) (T := TX5) (N := 6) (n := 6) hts uX5 (hts _ (k_wd1 77 (by decide +kernel) rfl))
  obtain ⟨c6, iS6, hKn6⟩ := u_known (C := RX6) (T := TX6) (N := 7) (n := 7) hts uX6 (hts _ (k_wd1 25 (by decide +kernel) rfl))
  obtain ⟨c7, iS7, hKn7⟩ := u_known (C := RX7) (T := TX7) (N := 2) (n := 2) hts uX7 (hts _ (k_wd1 173 (by decide +kernel) rfl))
  obtain ⟨c8, iS8, hKn8⟩ := u_known (C := RX8) (T := TX8) (N := 2) (n := 2) hts uX8 (hts _ (k_wd1 167 (by decide +kernel) rfl))
  obtain ⟨c9, iS9, hKn9⟩ := u_known (C := RX10) (T := TX10) (N := 11) (n := 11) hts uX10 (hts _ (k_wd1 17 (by decide +kernel) rfl))
  obtain ⟨c10, iS10, hKn10⟩ := u_known (C := RX11) (T := TX11) (N := 23) (n := 23) hts uX11 (hts _ (k_wd4 215 (by decide +kernel) rfl))
  obtain ⟨dC, dI, hKc⟩ : ∃ (dC : Nat → ClassId) (dI : Nat → Nat → Nat), ∀ (k : Nat) (q : vw_C), vwCl[k]? = some q → u_Kn s q.1 q.2.1 q.2.2 (dC k) (dI k) := by
    refine ⟨fun k => if k = 0 then c0 else if k = 1 then c1 else if k = 2 then c2 else if k = 3 then c3 else if k = 4 then c4 else if k = 5 then c5 else if k = 6 then c6 else if k = 7 then c7 else if k = 8 then c8 else if k = 9 then c9 else c10, fun k => if k = 0 then iS0 else if k = 1 then iS1 else if k = 2 then iS2 else if k = 3 then iS3 else if k = 4 then iS4 else if k = 5 then iS5 else if k = 6 then iS6 else if k = 7 then iS7 else if k = 8 then iS8 else if k = 9 then iS9 else iS10, ?_⟩
    intro k q hq
    match k, hq with
    | 0, hq => cases hq; exact hKn0
    | 1, hq => cases hq; exact hKn1
    | 2, hq => cases hq; exact hKn2
    | 3, hq => cases hq; exact hKn3
    | 4, hq => cases hq; exact hKn4
    | 5, hq => cases hq; exact hKn5
    | 6, hq => cases hq; exact hKn6
    | 7, hq => cases hq; exact hKn7
    | 8, hq => cases hq; exact hKn8
    | 9, hq => cases hq; exact hKn9
    | 10, hq => cases hq; exact hKn10
    | k + 11, hq => simp [vwCl] at hq
  obtain ⟨cI, kI, compI, i1, i2, i3⟩ := Cond.arrayClass_spec (hts _ k_cI)
  obtain ⟨cJ, kJ, compJ, j1, j2, j3⟩ := Cond.arrayClass_spec (hts _ k_cL)
  have hAO : k_AO s := hts0 (Cond.arrayOver (.array .int)) (List.mem_append_right _ (List.mem_of_getElem? (i := 202) (by decide +kernel)))
  obtain ⟨compG, cG, kG, g1, g2, g3, g4, g5⟩ := k_AO_spec hAO
  have hNW : k_NW s := ⟨fun w hw hn => va_Nw.of (k_isN_on hn) (hts0 w hw), hAO⟩
  have hK : va_K (dC, dI) vwCl (k_tys (fun k => if k = 0 then cI else if k = 1 then cJ else cG)) s := by
    refine ⟨hKc, fun k q hk => ?_⟩
    match k, hk with
    | 0, hk => cases hk; exact ⟨fun N z => ⟨(fun q hq => by cases hq), kI, i2, compI, i3⟩, i1⟩
    | 1, hk => cases hk; exact ⟨fun N z => ⟨(fun q hq => by cases hq), kJ, j2, compJ, j3⟩, j1⟩
    | 2, hk => cases hk; exact ⟨fun N z => ⟨(fun q hq => by cases hq), kG, g3, compG, g4⟩, g5⟩
    | k + 3, hk => simp [k_tys] at hk
  have hl := lv_entry ([.ref b]) (n := 4) (Nat.le_of_ble_eq_true rfl)
  rw [lg_entry_eq]
  generalize (lg_sl ([.ref b]) ++ List.replicate (4 - (lg_sl ([.ref b])).length) Slot.unset).toArray = ls at hl ⊢
  have hV := law_entry hKa hJ (xs := xs) hL
  refine @V.out _ _ _ _ _ _ _ _ _ _ _ hV p l e room_1 s m #[Value.ref b] below meth c s.heap [] 0 0 600000 7302250 (lw_Z below #[Value.ref b] s) (dC, dI) s.heap.size (fun i => if i < 200 then s.heap.size + i else b) (fun k => if k = 0 then cI else if k = 1 then cJ else cG) ⟨hx, hb, hml, hown, fun h => absurd h (by decide), hts, hNW, hK, Nat.le_refl _, fun _ i hi => if_pos hi, Or.inr ⟨hbl, hX⟩, by decide, by decide, (show 0 + 80 ≤ 600000 + 0 by decide), (show 0 + 43646 ≤ 7302250 by decide), by decide, by decide⟩ ⟨fun k q h => by simp [k_W] at h, ⟨fun i j p q h => by simp [k_W] at h, fun k q h => by simp [k_W] at h⟩, fun _ => rfl⟩ va_S.rf ?_ ls ?_
  · intro v σ' H' locs' pc' L' hp hw hS' hrd
    subst hp
    refine va_forget (fun q hq => hS'.2.2 q hq) ?_
    exact lw_ret hx hb hr hlocks hrd.1
  · refine ⟨hl.1, hl.2.1, fun q hq => hl.2.2 q ?_⟩
    obtain ⟨w, h1, h2⟩ := k_as_mem.mp hq
    obtain ⟨a, b2⟩ := q
    dsimp only at h1 h2
    subst h2
    match a, h1 with
    | 0, h1 => cases h1; exact List.mem_cons_self
    | 1, h1 => cases h1
    | 2, h1 => cases h1
    | 3, h1 => cases h1
    | a + 4, h1 => simp at h1

