/-! calls, checked in pieces (by gen/emit_tables.py) -/
noncomputable def xSchk (c : Nat) (q : Nat × Nat × Nat × Nat × Nat × Nat × Nat × Nat) : Bool :=
  decide (q.2.1 < 429) && xat q.2.2.2.2.2.2.2 (.initialized (xY q.2.1).cls) && decide (plainName (xY q.2.1).cls = true) &&
  (if q.2.2.2.1 % 2 = 0 then xat q.2.2.2.2.1 (.methodLink (xCN c) q.1 (xY q.2.1)) else match xNM[q.2.2.2.2.1]? with
    | some f => decide (f.1 = xCN c) && decide (f.2.1 = q.1) && decide (f.2.2.1 = xY q.2.1)
    | none => false) &&
  (if q.2.2.2.1 < 2 then decide (q.2.2.1 = xAr q.2.1) && xat q.2.2.2.2.2.1 (.static (xY q.2.1)) else decide (q.2.2.1 = xAr q.2.1 + 1) && xat q.2.2.2.2.2.1 (.instanceMethod (xY q.2.1)) &&
    (if q.2.2.2.1 < 4 then xat q.2.2.2.2.2.2.1 (.selects (xY q.2.1).cls (xY q.2.1) (xY q.2.1)) && (match xC[xKc q.2.1]? with
      | some r => decide (r.1 = (xY q.2.1).cls)
      | none => xKc q.2.1 == 1000 && decide ((xY q.2.1).cls = "java/lang/String")) else decide ((xY q.2.1).name = "<init>") && decide (xR q.2.1 = none)))
theorem lx_all2 {α : Type} {p : α → Bool} {l : List α} (n : Nat) (h1 : (l.take n).all p = true) (h2 : (l.drop n).all p = true) : l.all p = true := by rw [← List.take_append_drop n l, List.all_append, h1, h2]; rfl
theorem xSc_0_0 : ((xSl_0).take 40).all (xSchk 0) = true := by decide +kernel
theorem xSc_0_1 : (((xSl_0).drop 40).take 40).all (xSchk 0) = true := by decide +kernel
theorem xSc_0_2 : (((xSl_0).drop 40).drop 40).all (xSchk 0) = true := by decide +kernel
theorem xSc_0 : xSl_0.all (xSchk 0) = true := lx_all2 40 xSc_0_0 (lx_all2 40 xSc_0_1 (xSc_0_2))
theorem xSc_2_0 : (xSl_2).all (xSchk 2) = true := by decide +kernel
theorem xSc_2 : xSl_2.all (xSchk 2) = true := xSc_2_0
theorem xSc_4_0 : (xSl_4).all (xSchk 4) = true := by decide +kernel
theorem xSc_4 : xSl_4.all (xSchk 4) = true := xSc_4_0
theorem xSc_5_0 : (xSl_5).all (xSchk 5) = true := by decide +kernel
theorem xSc_5 : xSl_5.all (xSchk 5) = true := xSc_5_0
theorem xSc_6_0 : (xSl_6).all (xSchk 6) = true := by decide +kernel
theorem xSc_6 : xSl_6.all (xSchk 6) = true := xSc_6_0
theorem xSc_7_0 : (xSl_7).all (xSchk 7) = true := by decide +kernel
theorem xSc_7 : xSl_7.all (xSchk 7) = true := xSc_7_0
theorem xSc_8_0 : (xSl_8).all (xSchk 8) = true := by decide +kernel
theorem xSc_8 : xSl_8.all (xSchk 8) = true := xSc_8_0
theorem xSc_9_0 : (xSl_9).all (xSchk 9) = true := by decide +kernel
theorem xSc_9 : xSl_9.all (xSchk 9) = true := xSc_9_0
theorem xSc_10_0 : (xSl_10).all (xSchk 10) = true := by decide +kernel
theorem xSc_10 : xSl_10.all (xSchk 10) = true := xSc_10_0
theorem xSc_11_0 : (xSl_11).all (xSchk 11) = true := by decide +kernel
theorem xSc_11 : xSl_11.all (xSchk 11) = true := xSc_11_0
theorem xSc_12_0 : (xSl_12).all (xSchk 12) = true := by decide +kernel
theorem xSc_12 : xSl_12.all (xSchk 12) = true := xSc_12_0
theorem xSc_13_0 : (xSl_13).all (xSchk 13) = true := by decide +kernel
theorem xSc_13 : xSl_13.all (xSchk 13) = true := xSc_13_0
theorem xSc_14_0 : (xSl_14).all (xSchk 14) = true := by decide +kernel
theorem xSc_14 : xSl_14.all (xSchk 14) = true := xSc_14_0
theorem xSc_15_0 : (xSl_15).all (xSchk 15) = true := by decide +kernel
theorem xSc_15 : xSl_15.all (xSchk 15) = true := xSc_15_0
theorem xSc_17_0 : (xSl_17).all (xSchk 17) = true := by decide +kernel
theorem xSc_17 : xSl_17.all (xSchk 17) = true := xSc_17_0
theorem xSc_20_0 : ((xSl_20).take 40).all (xSchk 20) = true := by decide +kernel
theorem xSc_20_1 : (((xSl_20).drop 40).take 40).all (xSchk 20) = true := by decide +kernel
theorem xSc_20_2 : ((((xSl_20).drop 40).drop 40).take 40).all (xSchk 20) = true := by decide +kernel
theorem xSc_20_3 : (((((xSl_20).drop 40).drop 40).drop 40).take 40).all (xSchk 20) = true := by decide +kernel
theorem xSc_20_4 : ((((((xSl_20).drop 40).drop 40).drop 40).drop 40).take 40).all (xSchk 20) = true := by decide +kernel
theorem xSc_20_5 : ((((((xSl_20).drop 40).drop 40).drop 40).drop 40).drop 40).all (xSchk 20) = true := by decide +kernel
theorem xSc_20 : xSl_20.all (xSchk 20) = true := lx_all2 40 xSc_20_0 (lx_all2 40 xSc_20_1 (lx_all2 40 xSc_20_2 (lx_all2 40 xSc_20_3 (lx_all2 40 xSc_20_4 (xSc_20_5)))))
theorem xSc_21_0 : (xSl_21).all (xSchk 21) = true := by decide +kernel
theorem xSc_21 : xSl_21.all (xSchk 21) = true := xSc_21_0
theorem xS_chk : (List.range 22).all (fun c => (xSl.getD c []).all (xSchk c)) = true := by
  rw [List.all_eq_true]
  intro c hc
  have hc := List.mem_range.mp hc
  match c, hc with
  | 0, _ => exact xSc_0
  | 1, _ => rfl
  | 2, _ => exact xSc_2
  | 3, _ => rfl
  | 4, _ => exact xSc_4
  | 5, _ => exact xSc_5
  | 6, _ => exact xSc_6
  | 7, _ => exact xSc_7
  | 8, _ => exact xSc_8
  | 9, _ => exact xSc_9
  | 10, _ => exact xSc_10
  | 11, _ => exact xSc_11
  | 12, _ => exact xSc_12
  | 13, _ => exact xSc_13
  | 14, _ => exact xSc_14
  | 15, _ => exact xSc_15
  | 16, _ => rfl
  | 17, _ => exact xSc_17
  | 18, _ => rfl
  | 19, _ => rfl
  | 20, _ => exact xSc_20
  | 21, _ => exact xSc_21
  | c + 22, hc => exact absurd hc (by omega)
