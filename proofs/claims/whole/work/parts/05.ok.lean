/-! what the tables' rows say of lw_tbl -/
/-- the words that pass from a caller to a callee -/
noncomputable def xTS : List Cond := lw_tbl.filter goodWord
theorem xTS_good : ∀ w ∈ xTS, (w.onTables && w.keeps) = true ∨ ∃ ty, w = .arrayClass ty := fun _ hw => good_of_word (List.mem_filter.mp hw).2
/-- the pieces of lw_tbl; a place p stands in piece p / 1000 -/
noncomputable def xTb (j : Nat) : List Cond := match j with
  | 0 => k2_sels lw_privs
  | 1 => tables_1_1
  | 2 => tables_1_2
  | 3 => tables_1_3
  | 4 => tables_1_4
  | 5 => tables_1_5
  | 6 => tables_1_6
  | 7 => tables_1_7
  | 8 => tables_1_8
  | 9 => tables_1_9
  | 10 => tables_1_10
  | 11 => tables_1_11
  | 12 => tables_1_12
  | _ => []
theorem xTb_in {j : Nat} {w : Cond} (h : w ∈ xTb j) : w ∈ lw_tbl := by
  show w ∈ k2_sels lw_privs ++ tables_1
  have t1 : tables_1 = tables_1_1 ++ (tables_1_2 ++ (tables_1_3 ++ (tables_1_4 ++ (tables_1_5 ++ (tables_1_6 ++ (tables_1_7 ++ (tables_1_8 ++ (tables_1_9 ++ (tables_1_10 ++ (tables_1_11 ++ tables_1_12)))))))))) := rfl
  rw [t1]
  simp only [List.mem_append]
  unfold xTb at h
  split at h <;> first | exact absurd h List.not_mem_nil | simp only [h, true_or, or_true]
noncomputable def xat (p : Nat) (w : Cond) : Bool := decide ((xTb (p / 1000))[p % 1000]? = some w) && goodWord w
theorem xat_ok {p : Nat} {w : Cond} (h : xat p w = true) : w ∈ xTS := by
  unfold xat at h
  simp only [Bool.and_eq_true, decide_eq_true_eq] at h
  exact List.mem_filter.mpr ⟨xTb_in (List.mem_of_getElem? h.1), h.2⟩
/-- classes -/
noncomputable def xCchk (ci : Nat) : Bool := match xC[ci]? with
  | some r => (List.range r.2.2).all (fun k => xat ((xLp.getD ci []).getD k 0) (u_lay r.1 r.2.1 k) && decide (parseFieldDescriptor (r.2.1 k).2.2.1 = some (xFt ci k)) && (List.range r.2.2).all (fun j => decide (j = k) || !decide ((r.2.1 j).2.1 = (r.2.1 k).2.1)) && decide (defaultValue (xFt ci k) = vp_V (xDf ci) k)) && (xDf ci).all (fun v => match v with
    | .ref _ => false
    | .retAddr _ => false
    | _ => true)
  | none => true
theorem xC_chk : (List.range 13).all xCchk = true := by decide +kernel
theorem xC_len : xC.length = 13 := rfl
theorem xCchk_ok {ci : Nat} {r : vw_C} (h : xC[ci]? = some r) : xCchk ci = true := by
  have hl : ci < 13 := by rw [← xC_len]; exact (List.getElem?_eq_some_iff.mp h).1
  exact List.all_eq_true.mp xC_chk ci (List.mem_range.mpr hl)
theorem xC_ok' {ci : Nat} {r : vw_C} (h : xC[ci]? = some r) : (∀ k, k < r.2.2 → u_lay r.1 r.2.1 k ∈ xTS ∧ parseFieldDescriptor (r.2.1 k).2.2.1 = some (xFt ci k) ∧ (∀ j, j < r.2.2 → j ≠ k → (r.2.1 j).2.1 ≠ (r.2.1 k).2.1) ∧ defaultValue (xFt ci k) = vp_V (xDf ci) k) ∧ ∀ v ∈ xDf ci, (∀ a, v ≠ .ref a) ∧ ∀ a, v ≠ .retAddr a := by
  have hc := xCchk_ok h
  unfold xCchk at hc
  rw [h] at hc
  simp only [Bool.and_eq_true] at hc
  refine ⟨fun k hk => ?_, fun v hv => ?_⟩
  · have h1 := List.all_eq_true.mp hc.1 k (List.mem_range.mpr hk)
    simp only [Bool.and_eq_true, decide_eq_true_eq] at h1
    obtain ⟨⟨⟨a1, a2⟩, a3⟩, a4⟩ := h1
    refine ⟨xat_ok a1, a2, fun j hj hjk => ?_, a4⟩
    have h2 := List.all_eq_true.mp a3 j (List.mem_range.mpr hj)
    simp only [Bool.or_eq_true, decide_eq_true_eq, Bool.not_eq_true', decide_eq_false_iff_not] at h2
    rcases h2 with h2 | h2
    · exact absurd h2 hjk
    · exact h2
  · have h1 := List.all_eq_true.mp hc.2 v hv
    refine ⟨fun a e => ?_, fun a e => ?_⟩ <;> (rw [e] at h1; cases h1)
theorem xC_ok {ci : Nat} {C : String} {T : u_T} {N : Nat} (h : xC[ci]? = some (C, T, N)) : (∀ w ∈ u_ws C T N, w ∈ xTS) ∧ (∀ k, k < N → parseFieldDescriptor (T k).2.2.1 = some (xFt ci k)) ∧ ∀ a, a < N → ∀ b, b < N → a ≠ b → (T a).2.1 ≠ (T b).2.1 := by
  have h1 := (xC_ok' h).1
  refine ⟨fun w hw => ?_, fun k hk => (h1 k hk).2.1, fun a ha b hb hab => (h1 b hb).2.2.1 a ha hab⟩
  obtain ⟨k, hk, rfl⟩ := List.mem_map.mp hw
  exact (h1 k (List.mem_range.mp hk)).1
/-- a table of rows for each class of ours: all of them checked -/
theorem lx_tab {α : Type} {tb : List (List (Nat × α))} {ck : Nat → Nat × α → Bool} {n : Nat} (hn : tb.length = n) (h : (List.range n).all (fun c => (tb.getD c []).all (ck c)) = true) {c k : Nat} {v : α} (hf : lx_fd (tb.getD c []) k = some v) : ck c (k, v) = true := by
  by_cases hc : c < n
  · exact List.all_eq_true.mp (List.all_eq_true.mp h c (List.mem_range.mpr hc)) (k, v) (lx_fd_mem hf)
  · rw [List.getD_eq_getElem?_getD, List.getElem?_eq_none (by omega)] at hf
    cases hf
/-- fields -/
noncomputable def xFchk (c : Nat) (q : Nat × Nat × Nat × Nat × Nat) : Bool := if q.2.2.2.1 = 2 then (q.2.2.1 == 0 && xat q.2.2.2.2 (.fieldLink (xCN c) q.1 "java/lang/String" "value" "[B")) || (q.2.2.1 == 1 && xat q.2.2.2.2 (.fieldLink (xCN c) q.1 "java/lang/String" "coder" "B")) else match xC[q.2.1]? with
    | some r => decide (q.2.2.1 < r.2.2) && xat q.2.2.2.2 (.fieldLink (xCN c) q.1 (r.2.1 q.2.2.1).1 (r.2.1 q.2.2.1).2.1 (r.2.1 q.2.2.1).2.2.1) && ((q.2.2.2.1 == 0 && !(r.2.1 q.2.2.1).2.2.2) || (q.2.2.2.1 == 4 && (r.2.1 q.2.2.1).2.2.2 && decide ((r.2.1 q.2.2.1).1 = r.1)))
    | none => false
theorem xF_chk : (List.range 22).all (fun c => (xFl.getD c []).all (xFchk c)) = true := by decide +kernel
/-- a constructor's class -/
theorem xIn_chk : (List.range 430).all (fun m => !xIn m || match xC[xKc m]? with
    | some r => decide (r.1 = xO m)
    | none => true) = true := by decide +kernel
set_option maxRecDepth 100000 in
theorem xIn_ok {m : Nat} {r : vw_C} (h : xIn m = true) (hr : xC[xKc m]? = some r) : r.1 = xO m := by
  by_cases hm : m < 430
  · have h1 := List.all_eq_true.mp xIn_chk m (List.mem_range.mpr hm)
    rw [h, hr] at h1
    simpa using h1
  · have e : xIn m = false := by
      unfold xIn
      rw [List.getD_eq_getElem?_getD, List.getElem?_eq_none (show xNl.length ≤ m from Nat.le_trans (Nat.le_of_eq (show xNl.length = 430 from rfl)) (by omega))]
      rfl
    rw [e] at h
    cases h
theorem xF_ok {m idx ci k w : Nat} (h : xF m idx = some (ci, k, w)) : ((w = 0 ∨ w = 3 ∨ w = 4) ∧ ∃ (C : String) (T : u_T) (N : Nat), xC[ci]? = some (C, T, N) ∧ k < N ∧ Cond.fieldLink (xO m) idx (T k).1 (T k).2.1 (T k).2.2.1 ∈ xTS ∧ (w = 0 → (T k).2.2.2 = false) ∧ (w = 3 → (T k).2.2.2 = true ∧ xIn m = true ∧ (T k).1 = xO m)) ∨ (w = 2 ∧ ((k = 0 ∧ Cond.fieldLink (xO m) idx "java/lang/String" "value" "[B" ∈ xTS) ∨ (k = 1 ∧ Cond.fieldLink (xO m) idx "java/lang/String" "coder" "B" ∈ xTS))) := by
  unfold xF at h
  split at h
  · next q hq =>
    have h1 := lx_tab (ck := xFchk) (n := 22) rfl xF_chk hq
    obtain ⟨qc, qk, qw, qp⟩ := q
    simp only [Option.some.injEq, Prod.mk.injEq] at h
    obtain ⟨rfl, rfl, h3⟩ := h
    unfold xFchk at h1
    dsimp only at h1 h3
    by_cases h2 : qw = 2
    · rw [if_pos h2] at h1
      subst h2
      rw [if_neg (by omega)] at h3
      subst h3
      refine Or.inr ⟨rfl, ?_⟩
      simp only [Bool.or_eq_true, Bool.and_eq_true, beq_iff_eq] at h1
      rcases h1 with h1 | h1
      · exact Or.inl ⟨h1.1, xat_ok h1.2⟩
      · exact Or.inr ⟨h1.1, xat_ok h1.2⟩
    · rw [if_neg h2] at h1
      split at h1
      · next r hr =>
        simp only [Bool.or_eq_true, Bool.and_eq_true, beq_iff_eq, decide_eq_true_eq, Bool.not_eq_true'] at h1
        obtain ⟨⟨a1, a2⟩, a3⟩ := h1
        refine Or.inl ⟨?_, r.1, r.2.1, r.2.2, hr, a1, xat_ok a2, fun h0 => ?_, fun h0 => ?_⟩
        · split at h3
          · omega
          · rcases a3 with a3 | a3 <;> omega
        · split at h3
          · omega
          · rcases a3 with a3 | a3
            · exact a3.2
            · omega
        · split at h3
          · next hc =>
            obtain ⟨c1, c2, c3⟩ := hc
            rcases a3 with a3 | a3
            · omega
            · refine ⟨a3.1.2, c2, a3.2.trans ?_⟩
              rw [c3] at hr
              exact xIn_ok c2 hr
          · rcases a3 with a3 | a3 <;> omega
      · cases h1
  · cases h
/-- new -/
noncomputable def xNchk (c : Nat) (q : Nat × Nat × Nat × Nat × Nat) : Bool := match xC[q.2.1]? with
  | some r => xat q.2.2.1 (.classLink (xCN c) q.1 r.1) && xat q.2.2.2.1 (.instantiable r.1 r.2.2) && xat q.2.2.2.2 (.initialized r.1)
  | none => false
theorem xN_chk : (List.range 22).all (fun c => (xNwl.getD c []).all (xNchk c)) = true := by decide +kernel
theorem lx_map_plain {g : Value → Value} {fs : List Value} (h : ∀ v ∈ fs, g v = v) : fs.map g = fs := by
  induction fs with
  | nil => rfl
  | cons v fs ih => rw [List.map_cons, h v List.mem_cons_self, ih (fun w hw => h w (List.mem_cons_of_mem _ hw))]
theorem xN_ok {m idx ci : Nat} {fs : List Value} (h : xN m idx = some (ci, fs)) : ∃ (C : String) (T : u_T) (N : Nat), xC[ci]? = some (C, T, N) ∧ Cond.classLink (xO m) idx C ∈ xTS ∧ Cond.instantiable C N ∈ xTS ∧ Cond.initialized C ∈ xTS ∧ (∀ j, j < N → defaultValue (xFt ci j) = vp_V fs j) ∧ ∀ v ∈ fs, (∀ a, v ≠ .ref a) ∧ ∀ a, v ≠ .retAddr a := by
  unfold xN at h
  split at h
  · next q hq =>
    have h1 := lx_tab (ck := xNchk) (n := 22) rfl xN_chk hq
    obtain ⟨qc, q2, q3, q4⟩ := q
    simp only [Option.some.injEq, Prod.mk.injEq] at h
    obtain ⟨rfl, rfl⟩ := h
    unfold xNchk at h1
    dsimp only at h1
    split at h1
    · next r hr =>
      simp only [Bool.and_eq_true] at h1
      have h2 := xC_ok' hr
      exact ⟨r.1, r.2.1, r.2.2, hr, xat_ok h1.1.1, xat_ok h1.1.2, xat_ok h1.2, fun j hj => (h2.1 j hj).2.2.2, h2.2⟩
    · cases h1
  · cases h
/-- arrays of objects -/
noncomputable def xQchk (c : Nat) (q : Nat × Nat × Nat) : Bool := q.2.1 == 5 && xat q.2.2 (.classLink (xCN c) q.1 (xOn q.2.1))
theorem xQ_chk : (List.range 22).all (fun c => (xQl.getD c []).all (xQchk c)) = true := by decide +kernel
theorem xQ_ok {m idx t : Nat} (h : xQ m idx = some t) : t = 5 ∧ Cond.classLink (xO m) idx (xOn t) ∈ xTS := by
  unfold xQ at h
  split at h
  · next q hq =>
    have h1 := lx_tab (ck := xQchk) (n := 22) rfl xQ_chk hq
    simp only [Option.some.injEq] at h
    subst h
    unfold xQchk at h1
    simp only [Bool.and_eq_true, beq_iff_eq] at h1
    exact ⟨h1.1, xat_ok h1.2⟩
  · cases h
/-- statics -/
noncomputable def xGchk (c : Nat) (q : Nat × Nat × Nat × Nat) : Bool := match xZ[q.2.1]? with
  | some z => (q.2.2.1 == 0 && xat q.2.2.2 (.fieldLink (xCN c) q.1 z.1 z.2.1 z.2.2.1)) || (q.2.2.1 == 1 && match xNF[q.2.2.2]? with
    | some f => decide (f.1 = xCN c) && decide (f.2.1 = q.1) && decide (f.2.2.1 = z.1) && decide (f.2.2.2.1 = z.2.1) && decide (f.2.2.2.2.1 = z.2.2.1)
    | none => false)
  | none => false
theorem xG_chk : (List.range 22).all (fun c => (xGl.getD c []).all (xGchk c)) = true := by decide +kernel
theorem xG_ok {m idx : Nat} {v : Value} (h : xG m idx = some v) : ∃ C n d : String, (C, n, d, v) ∈ xZ ∧ (Cond.fieldLink (xO m) idx C n d ∈ xTS ∨ ∃ host : String, (xO m, idx, C, n, d, host) ∈ xNF) := by
  unfold xG at h
  split at h
  · next q hq =>
    have h1 := lx_tab (ck := xGchk) (n := 22) rfl xG_chk hq
    obtain ⟨z, hz, rfl⟩ := Option.map_eq_some_iff.mp h
    unfold xGchk at h1
    dsimp only at h1
    rw [hz] at h1
    refine ⟨z.1, z.2.1, z.2.2.1, List.mem_of_getElem? hz, ?_⟩
    simp only [Bool.or_eq_true, Bool.and_eq_true, beq_iff_eq] at h1
    rcases h1 with h1 | ⟨-, h1⟩
    · exact Or.inl (xat_ok h1.2)
    · split at h1
      · next f hf =>
        simp only [Bool.and_eq_true, decide_eq_true_eq] at h1
        obtain ⟨⟨⟨⟨e1, e2⟩, e3⟩, e4⟩, e5⟩ := h1
        refine Or.inr ⟨f.2.2.2.2.2, ?_⟩
        rw [← e3, ← e4, ← e5]
        have e1 : f.1 = xO m := e1
        rw [← e1, ← e2]
        exact List.mem_of_getElem? hf
      · cases h1
  · cases h
/-- constants -/
noncomputable def xDchk (c : Nat) (q : Nat × Value × Nat) : Bool := match q.2.1 with
  | .int z => xat q.2.2 (.constant (xCN c) q.1 z)
  | .long z => xat q.2.2 (.constantLong (xCN c) q.1 z)
  | .ref a => match xStr[q.2.2]? with
    | some f => decide (f.1 = xCN c) && decide (f.2.1 = q.1) && decide (a = lx_K + f.2.2.2)
    | none => false
  | _ => false
theorem xD_chk : (List.range 22).all (fun c => (xDl.getD c []).all (xDchk c)) = true := by decide +kernel
theorem xD_ok {m idx : Nat} {v : Value} (h : xD m idx = some v) : (∃ z, v = .int z ∧ Cond.constant (xO m) idx z ∈ xTS) ∨ (∃ z, v = .long z ∧ Cond.constantLong (xO m) idx z ∈ xTS) ∨ ∃ (tx : String) (k : Nat), v = .ref (lx_K + k) ∧ (xO m, idx, tx, k) ∈ xStr := by
  unfold xD at h
  split at h
  · next q hq =>
    have h1 := lx_tab (ck := xDchk) (n := 22) rfl xD_chk hq
    simp only [Option.some.injEq] at h
    obtain ⟨qv, qp⟩ := q
    dsimp only at h
    subst h
    unfold xDchk at h1
    dsimp only at h1
    cases qv with
    | int z => exact Or.inl ⟨z, rfl, xat_ok h1⟩
    | long z => exact Or.inr (Or.inl ⟨z, rfl, xat_ok h1⟩)
    | ref a =>
      dsimp only at h1
      split at h1
      · next f hf =>
        simp only [Bool.and_eq_true, decide_eq_true_eq] at h1
        obtain ⟨⟨e1, e2⟩, e3⟩ := h1
        refine Or.inr (Or.inr ⟨f.2.2.1, f.2.2.2, by rw [e3], ?_⟩)
        have e1 : f.1 = xO m := e1
        rw [← e1, ← e2]
        exact List.mem_of_getElem? hf
      · cases h1
    | _ => cases h1
  · cases h
/-- natives, and Math's members by the library's contracts -/
noncomputable def xPw (k : Nat) : MethodName := match k with
  | 0 => arraycopyName
  | 1 => Lib.Math.max.name
  | 2 => Lib.Math.min.name
  | 3 => Lib.Math.abs.name
  | 5 => Lib.MathLoose.min_long.x
  | _ => Lib.objectInit
noncomputable def xPchk (c : Nat) (q : Nat × Nat × Nat) : Bool := decide (q.2.1 ≤ 5) && xat q.2.2 (.methodLink (xCN c) q.1 (xPw q.2.1))
theorem xP_chk : (List.range 22).all (fun c => (xPl.getD c []).all (xPchk c)) = true := by decide +kernel
theorem xP_ok {m idx k : Nat} (h : xP m idx = some k) : Cond.methodLink (xO m) idx (xPw k) ∈ xTS := by
  unfold xP at h
  split at h
  · next q hq =>
    have h1 := lx_tab (ck := xPchk) (n := 22) rfl xP_chk hq
    simp only [Option.some.injEq] at h
    subst h
    unfold xPchk at h1
    simp only [Bool.and_eq_true] at h1
    exact xat_ok h1.2
  · cases h
theorem xw_native : Cond.native arraycopyName ∈ xTS := xat_ok (p := 3081) (by decide +kernel)
theorem xw_copyS : Cond.static arraycopyName ∈ xTS := xat_ok (p := 3080) (by decide +kernel)
theorem xw_sysI : Cond.initialized "java/lang/System" ∈ xTS := xat_ok (p := 1015) (by decide +kernel)
theorem xw_objI : Cond.instanceMethod Lib.objectInit ∈ xTS := xat_ok (p := 1028) (by decide +kernel)
