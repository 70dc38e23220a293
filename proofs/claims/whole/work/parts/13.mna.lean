theorem vr_outer (c : ClassId) (N h0 : Nat) : ∀ i : Nat, Jvm.Free.Multi.outerC c N h0 i = arrV c N (fun j => va_rf (if j < i then some (h0 + 1 + j) else none))
  | 0 => by
    show ({ cls := c, slots := Array.replicate N .null, vm := .none } : Cell) = _
    rw [arrV_new]
    refine congrArg (arrV c N) (funext fun j => ?_)
    simp [va_rf]
  | i + 1 => by
    show (Jvm.Free.Multi.outerC c N h0 i).setSlot i (.ref (h0 + 1 + i)) = _
    rw [vr_outer c N h0 i, arrV_store]
    refine congrArg (arrV c N) (funext fun j => ?_)
    by_cases e : j = i
    · subst e
      simp [updV, va_rf]
    · by_cases h : j < i
      · simp [updV, e, h, Nat.lt_succ_of_lt h]
      · simp [updV, e, h, show ¬ j < i + 1 by omega]
def k_mna (σ : kS) (n : Nat) : kS := (fun x => if n + 1 ≤ x ∧ x < n + 7 then (fun _ => 0) else σ.1 x, σ.2.1, va_up σ.2.2 n (fun j => if j < 6 then some (n + 1 + j) else none))
theorem k_D {z n : Nat} {ad : Nat → Nat} {cA : Nat → ClassId} {σ : kS} (had : ∀ i, i < n → ad i = z + i) : va_D (k_A z) (k_W ad cA n σ) := by
  have key : ∀ (k : Nat) (q : Nat × va_E), (k_W ad cA n σ)[k]? = some q → k < n ∧ q.1 = z + k := by
    intro k q hk
    have hl : k < n := by have := (List.getElem?_eq_some_iff.mp hk).1; simpa [k_W] using this
    rw [k_W_at hl] at hk
    cases hk
    exact ⟨hl, had k hl⟩
  refine ⟨fun i j p q hi hj hpq => ?_, fun k q hk => ?_⟩
  · have h1 := key i p hi
    have h2 := key j q hj
    omega
  · have h1 := key k q hk
    show z ≤ q.1
    omega
theorem k_6 : (6 : Int32).toNatClampNeg = 6 := by decide +kernel
theorem k_30 : (30 : Int32).toNatClampNeg = 30 := by decide +kernel
section kMn
variable {y : MethodName} {cc : ByteArray} {mx : Nat} {ret : Option FieldType} {d : Nat} {pc : Nat} {ls : List (Option Value)} {st : List Value} {σ : kS} {post : Option Value → kS → Prop}
set_option maxHeartbeats 100000 in
theorem v_mna {idx n nf b : Nat} {al alr : Prop} {X : Nat × (Nat → Int32)} (hcl : Cond.classLink y.cls idx "[[I" ∈ lw_g) (hw : Cond.arrayClass .int ∈ lw_g) (hd : decode cc pc = .ok (.multianewarray idx 2, 4)) (hsh : k_sh n = (3, 6, [])) (hsh2 : ∀ j, j < 6 → k_sh (n + 1 + j) = (1, 30, [])) (hal : al) (hlt : n + 7 ≤ nf ∧ n + 7 < 200) (hb : 186 ≤ b)
    (kk : V y cc mx ret d (n + 7, nf, b - 186, al, alr, X) (pc + 4) ls (.ref n :: st) (k_mna σ n) post) : V y cc mx ret d (n, nf, b, al, alr, X) pc ls (.int 30 :: .int 6 :: st) σ post := by
  refine ⟨@fun p l e R s m args below meth c H locs cells slots mc ms Q D z ad cA C w hS hR L hL => ?_, trivial⟩
  obtain ⟨c1, c2, c3, c4, c5, hts, hNw, hK, hz, had, hsc, hfr, hlo, hce, hsl, hmc, hms⟩ := id C
  dsimp only at hce hsl had
  have hs : H.size = z + n := w.2.2 hal
  have had1 := had hal
  intro T hT Xs
  obtain ⟨vm₁, cA1, comp, -, fA, fC, hO, -, X', step⟩ := Xs.multianewarray2F (ty := .int) c1 c4 (hts _ hcl) hNw.2 (hts _ hw) (g := F0 m pc L ((.int 30 :: .int 6 :: st).map (k_v ad))) rfl (by rw [c2]; exact hd) rfl (by decide +kernel) (by decide +kernel) (by decide +kernel) (by decide +kernel) (by decide +kernel) rfl rfl (by rw [k_6]; omega) (by rw [k_6, k_30]; omega)
  have hcA : cA1 = cA 2 := Option.some.inj (fA.symm.trans (hK.2 2 (cA 2, .array .int) rfl).2)
  subst hcA
  have hcB : comp = cA 0 := Option.some.inj (fC.symm.trans (hK.2 0 (cA 0, .int) rfl).2)
  subst hcB
  rw [k_6, k_30] at X' step
  generalize hF : Jvm.Free.Multi.fill (T.setVm vm₁) (cA 2) (cA 0) 6 30 (defaultValue .int) 6 = F at X' step
  have hTh : (T.setVm vm₁).heap = H := hT
  obtain ⟨f1, f2, -, -⟩ := Jvm.Free.Multi.fill_facts (T.setVm vm₁) (cA 2) (cA 0) 6 30 (defaultValue .int) 6
  rw [hF, hTh] at f1 f2
  have f1 : F.heap.size = H.size + 1 + 6 := f1
  have hold : ∀ x : Nat, x < H.size → F.heap[x]? = H[x]? := fun x hx => by
    have := Jvm.Free.Multi.fill_old (T.setVm vm₁) (cA 2) (cA 0) 6 30 (defaultValue .int) (a := x) (by rw [hTh]; exact hx) 6
    rw [hF, hTh] at this
    exact this
  have hrow : ∀ j : Nat, j < 6 → F.heap[H.size + 1 + j]? = some (vp_cell (cA 0) (30, .inl (fun _ => 0))) := fun j hj => by
    have := Jvm.Free.Multi.fill_inner (T.setVm vm₁) (cA 2) (cA 0) 6 30 (defaultValue .int) 6 j hj
    rw [hF, hTh] at this
    rw [this, vp_cell_i, ← arrV_new]
    rfl
  have hout : F.heap[H.size]? = some (vp_cell (cA 2) (6, .inr (.inr (.inr (.inr (fun i => if i < 6 then some (H.size + 1 + i) else none)))))) := by
    rw [f2, vp_cell_q]
    exact congrArg some (vr_outer (cA 2) 6 H.size 6)
  have hP1 : va_P D vwCl (k_W ad cA (n + 7) (k_mna σ n)) F.heap := by
    intro k q hk
    have hl : k < n + 7 := by have := (List.getElem?_eq_some_iff.mp hk).1; simpa [k_W] using this
    rw [k_W_at hl] at hk
    cases hk
    have hak := had1 k (by omega)
    by_cases h1 : k < n
    · have e1 : k_ce ad cA (k_mna σ n) k = k_ce ad cA σ k := k_ce_same (by show (if n + 1 ≤ k ∧ k < n + 7 then _ else σ.1 k) = σ.1 k; rw [if_neg (by omega)]) rfl (by show va_up σ.2.2 n _ k = σ.2.2 k; simp [va_up, show k ≠ n by omega])
      rw [e1]
      exact (w.1 k _ (k_W_at h1)).kept (hold _ (by show ad k < H.size; omega))
    · by_cases h2 : k = n
      · subst h2
        rw [k_arR hsh]
        show F.heap[ad k]? = some (vp_cell (cA 2) _)
        rw [hak, ← hs, hout]
        refine congrArg (fun f => some (vp_cell (cA 2) (6, .inr (.inr (.inr (.inr f)))))) (funext fun j => ?_)
        show _ = ((va_up σ.2.2 k (fun j => if j < 6 then some (k + 1 + j) else none)) k j).map ad
        by_cases hj : j < 6
        · simp [va_up, hj, had1 (k + 1 + j) (by omega)]
          omega
        · simp [va_up, hj]
      · obtain ⟨j, rfl⟩ : ∃ j, k = n + 1 + j := ⟨k - (n + 1), by omega⟩
        rw [k_arI (hsh2 j (by omega))]
        show F.heap[ad (n + 1 + j)]? = some (vp_cell (cA 0) _)
        rw [hak, show z + (n + 1 + j) = H.size + 1 + j by omega, hrow j (by omega)]
        refine congrArg (fun f => some (vp_cell (cA 0) (30, .inl f))) ?_
        show _ = (if n + 1 ≤ n + 1 + j ∧ n + 1 + j < n + 7 then (fun _ => 0) else σ.1 (n + 1 + j))
        rw [if_pos (by omega)]
  have hS1 : va_S (k_A z) s.heap F.heap locs := ⟨by rw [f1]; have := hS.1; omega, fun x h1 h2 => (hold x (Nat.lt_of_lt_of_le h1 hS.1)).trans (hS.2.1 x h1 h2), hS.2.2⟩
  have K := kk.1 (l := l) (e := e) (below := below) (H := F.heap) (locs := locs) (cells := cells + 1 + 6) (slots := slots + 6 + 6 * 30) ⟨c1, c2, c3, c4, c5, hts, hNw, hK, hz, had, hsc, hfr, hlo, by show cells + 1 + 6 + nf ≤ mc + (n + 7); omega, by show slots + 6 + 6 * 30 + (b - 186) ≤ ms; omega, hmc, hms⟩ ⟨hP1, k_D (fun i hi => had1 i (by omega)), fun _ => by omega⟩ hS1 hR L hL
  obtain ⟨t, a1, b1⟩ := K F rfl X'
  refine ⟨t, step t ?_, b1⟩
  have e9 : T.heap.size = ad n := by rw [hT, had1 n (by omega), hs]
  rw [e9]
  exact a1
end kMn
