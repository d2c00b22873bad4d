/-! rows of stores -/
section LXT
variable {g : lx_G} {kc : List va_E} {m : Nat} {p : Program} {l : Launch} {e : Env} {R : Room} {s : State} {mm : MethodId} {args : Array Value} {below : List Frame} {meth : Method} {c : Code} {h0 : Nat × Nat} {Q : State → Prop}
variable {pc : Nat} {L : lx_L} {st : List Value} {h : lx_H} {r : Nat × lx_L × List Value × lx_H}
theorem lx_vin {cA : ClassId} {n : Nat} {f : Nat → Int32} {i : Int32} (hi : lx_in i n = true) : ¬ (i < 0 ∨ (vp_cell cA (n, .inl f)).slots.size ≤ i.toNatClampNeg) := by
  show ¬ (i < 0 ∨ (arrV _ _ _).slots.size ≤ _)
  rw [arrV_size]
  exact lx_in_ok hi
theorem lx_vinL {cA : ClassId} {n : Nat} {f : Nat → Int64} {i : Int32} (hi : lx_in i n = true) : ¬ (i < 0 ∨ (vp_cell cA (n, .inr (.inl f))).slots.size ≤ i.toNatClampNeg) := by
  show ¬ (i < 0 ∨ (arrV _ _ _).slots.size ≤ _)
  rw [arrV_size]
  exact lx_in_ok hi
theorem lx_wfu {t n k : Nat} {f : Nat → Int32} {x : Int32} (h1 : t ∈ xTg) (h2 : ∀ i, fits (lx_ty t) (.int (f i)) = true) (h3 : fits (lx_ty t) (.int x) = true) : ∀ y : ClassId × vp_A, (Sum.inl (t, n, .inl (upd f k x)) : va_E) = .inl y → y.1 ∈ xTg ∧ ∀ f, y.2.2 = .inl f → ∀ i, fits (lx_ty y.1) (.int (f i)) = true := by
  intro y hy
  cases hy
  refine ⟨h1, fun f' hf i => ?_⟩
  cases hf
  show fits _ (.int (if i = k then x else f i)) = true
  split
  · exact h3
  · exact h2 i
theorem lx_w_iast (X : lx_X g kc m p s mm args meth c) (hd : decode (xB m) pc = .ok (.iastore, 1)) (hs : lx_ast (fun t => t == 0) (fun _ x => x) pc L st h = some r) (K : lx_C g kc m p l e R s mm args below meth c h0 Q r.1 r.2.1 r.2.2.1 r.2.2.2) : lx_C g kc m p l e R s mm args below meth c h0 Q pc L st h := by
  obtain ⟨x, i, a, tl, t, n, f, rfl, hk, ha, hT, hi, rfl⟩ := lx_ast_inv hs
  obtain rfl : t = 0 := by simpa using hT
  intro H locs ls hR hS hl
  show W p l e R s mm args below meth c H locs _ _ Q (F0 mm pc ls (.int x :: .int i :: .ref (lx_ad g a) :: tl.map (lx_v g)))
  rw [lx_ad_lt hk]
  have hw := hR.2.2.1 a _ ha
  obtain ⟨t0, ht0⟩ := lx_tys_in (g := g) hw.1
  refine W.iast X.1 X.2.1 (lx_Rp_at hR ha) (((lx_X_K X).2 t0 _ ht0).1 n (fun j => .int (f j))) (fun q => by cases q) (lx_vin hi) rfl rfl hd fun H1 e1 z oq => ?_
  exact lx_stored (e1 := .inl (0, n, .inl (upd f i.toNatClampNeg x))) (pc' := pc + 1) hR hS hl ha rfl (e1.trans (congrArg some (lx_sl_i _ _ _ _ _))) z oq (lx_wfu hw.1 (hw.2 f rfl) rfl) K
theorem lx_w_cast (X : lx_X g kc m p s mm args meth c) (hd : decode (xB m) pc = .ok (.castore, 1)) (hs : lx_ast (fun t => t == 1) (fun _ x => vp_nar .char x) pc L st h = some r) (K : lx_C g kc m p l e R s mm args below meth c h0 Q r.1 r.2.1 r.2.2.1 r.2.2.2) : lx_C g kc m p l e R s mm args below meth c h0 Q pc L st h := by
  obtain ⟨x, i, a, tl, t, n, f, rfl, hk, ha, hT, hi, rfl⟩ := lx_ast_inv hs
  obtain rfl : t = 1 := by simpa using hT
  intro H locs ls hR hS hl
  show W p l e R s mm args below meth c H locs _ _ Q (F0 mm pc ls (.int x :: .int i :: .ref (lx_ad g a) :: tl.map (lx_v g)))
  rw [lx_ad_lt hk]
  have hw := hR.2.2.1 a _ ha
  obtain ⟨t0, ht0⟩ := lx_tys_in (g := g) hw.1
  refine W.cast X.1 X.2.1 (lx_Rp_at hR ha) (((lx_X_K X).2 t0 _ ht0).1 n (fun j => .int (f j))) (fun q => by cases q) (lx_vin hi) rfl rfl hd fun H1 e1 z oq => ?_
  exact lx_stored (e1 := .inl (1, n, .inl (upd f i.toNatClampNeg (vp_nar .char x)))) (pc' := pc + 1) hR hS hl ha rfl (e1.trans (congrArg some (lx_sl_i _ _ _ _ (vp_nar .char x)))) z oq (lx_wfu hw.1 (hw.2 f rfl) (lx_fit_char x)) K
theorem lx_w_bast (X : lx_X g kc m p s mm args meth c) (hd : decode (xB m) pc = .ok (.bastore, 1)) (hs : lx_ast (fun t => t == 3 || t == 4) (fun t x => if t = 3 then vp_nar .byte x else vp_nar .boolean x) pc L st h = some r) (K : lx_C g kc m p l e R s mm args below meth c h0 Q r.1 r.2.1 r.2.2.1 r.2.2.2) : lx_C g kc m p l e R s mm args below meth c h0 Q pc L st h := by
  obtain ⟨x, i, a, tl, t, n, f, rfl, hk, ha, hT, hi, rfl⟩ := lx_ast_inv hs
  have hT : t = 3 ∨ t = 4 := by simpa using hT
  intro H locs ls hR hS hl
  show W p l e R s mm args below meth c H locs _ _ Q (F0 mm pc ls (.int x :: .int i :: .ref (lx_ad g a) :: tl.map (lx_v g)))
  rw [lx_ad_lt hk]
  have hw := hR.2.2.1 a _ ha
  obtain ⟨t0, ht0⟩ := lx_tys_in (g := g) hw.1
  rcases hT with rfl | rfl
  · refine W.bast X.1 X.2.1 (lx_Rp_at hR ha) (((lx_X_K X).2 t0 _ ht0).1 n (fun j => .int (f j))) (fun q => by cases q) (lx_vin hi) rfl rfl hd fun H1 e1 z oq => ?_
    dsimp only at K
    rw [if_pos rfl] at K
    exact lx_stored (e1 := .inl (3, n, .inl (upd f i.toNatClampNeg (vp_nar .byte x)))) (pc' := pc + 1) hR hS hl ha rfl (e1.trans (congrArg some (lx_sl_i _ _ _ _ (vp_nar .byte x)))) z oq (lx_wfu hw.1 (hw.2 f rfl) (lx_fit_byte x)) K
  · refine W.zast X.1 X.2.1 (lx_Rp_at hR ha) (((lx_X_K X).2 t0 _ ht0).1 n (fun j => .int (f j))) (fun q => by cases q) (lx_vin hi) rfl rfl hd fun H1 e1 z oq => ?_
    dsimp only at K
    rw [if_neg (by decide)] at K
    exact lx_stored (e1 := .inl (4, n, .inl (upd f i.toNatClampNeg (vp_nar .boolean x)))) (pc' := pc + 1) hR hS hl ha rfl (e1.trans (congrArg some (lx_sl_i _ _ _ _ (vp_nar .boolean x)))) z oq (lx_wfu hw.1 (hw.2 f rfl) (lx_fit_bool x)) K
theorem lx_w_last (X : lx_X g kc m p s mm args meth c) (hd : decode (xB m) pc = .ok (.lastore, 1)) (hs : lx_asl pc L st h = some r) (K : lx_C g kc m p l e R s mm args below meth c h0 Q r.1 r.2.1 r.2.2.1 r.2.2.2) : lx_C g kc m p l e R s mm args below meth c h0 Q pc L st h := by
  obtain ⟨x, i, a, tl, n, f, rfl, hk, ha, hi, rfl⟩ := lx_asl_inv hs
  intro H locs ls hR hS hl
  show W p l e R s mm args below meth c H locs _ _ Q (F0 mm pc ls (.long x :: .int i :: .ref (lx_ad g a) :: tl.map (lx_v g)))
  rw [lx_ad_lt hk]
  have hw := hR.2.2.1 a _ ha
  obtain ⟨t0, ht0⟩ := lx_tys_in (g := g) hw.1
  refine W.last X.1 X.2.1 (lx_Rp_at hR ha) (((lx_X_K X).2 t0 _ ht0).1 n (fun j => .long (f j))) (fun q => by cases q) (lx_vinL hi) rfl rfl hd fun H1 e1 z oq => ?_
  refine lx_stored (e1 := .inl (2, n, .inr (.inl (vp_updL f i.toNatClampNeg x)))) (pc' := pc + 1) hR hS hl ha rfl (e1.trans (congrArg some (lx_sl_l _ _ _ _ _))) z oq (fun y hy => ?_) K
  cases hy
  exact ⟨hw.1, fun f' hf => by cases hf⟩
/-- behind a new cell -/
theorem lx_pushed {H1 : Heap} {locs : List Loc} {ls : Array Slot} {pc' : Nat} {e1 : va_E} {tl : List Value} (hK : h.length < lx_K) (hc0 : h0.1 ≤ h.length) (hs0 : h0.2 ≤ lx_hs h) (k : W p l e R s mm args below meth c H1 locs ((h ++ [e1]).length - h0.1) (lx_hs (h ++ [e1]) - h0.2) Q (F0 mm pc' ls ((Value.ref h.length :: tl).map (lx_v g)))) : W p l e R s mm args below meth c H1 locs (h.length - h0.1 + 1) (lx_hs h - h0.2 + lx_es e1) Q (F0 mm pc' ls (.ref (g.1 + h.length) :: tl.map (lx_v g))) := by
  have e2 : (Value.ref h.length :: tl).map (lx_v g) = .ref (g.1 + h.length) :: tl.map (lx_v g) := by
    show Value.ref (lx_ad g h.length) :: _ = _
    rw [lx_ad_lt hK]
  rw [e2] at k
  refine W.cs ?_ ?_ k
  · rw [List.length_append]
    show _ = h.length + 1 - h0.1
    omega
  · rw [lx_hs_push]
    omega
/-- a new array of numbers -/
theorem lx_w_nwa {atype : ArrayType} {t b : Nat} {z : (Nat → Int32) ⊕ (Nat → Int64) ⊕ (Nat → UInt32) ⊕ (Nat → UInt64) ⊕ (Nat → Option Nat)} (hty : newarray.typeOf atype = lx_ty t) (hcb : componentBytes (lx_ty t) = b) (hin : t ∈ xTg) (hz0 : ∀ (cA : ClassId) (n : Nat), vp_cell cA (n, lx_x g z) = arrV cA n (fun _ => defaultValue (lx_ty t))) (hz1 : ∀ f, z = .inl f → ∀ i, fits (lx_ty t) (.int (f i)) = true) (hRA : ∀ (U : State) (cA : ClassId), va_RA U cA (lx_ty t) → U.vm.findClass ("[" ++ (lx_ty t).toString) = some cA) (harr : (Cond.arrayClass (lx_ty t)).before args s = true)
    (X : lx_X g kc m p s mm args meth c) (hd : decode (xB m) pc = .ok (.newarray atype, 2)) (hs : lx_nwa t b z pc L st h = some r) (hRc : r.2.2.2.length - h0.1 ≤ R.cells) (hRs : lx_hs r.2.2.2 - h0.2 ≤ R.slots) (hc0 : h0.1 ≤ h.length) (hs0 : h0.2 ≤ lx_hs h) (K : lx_C g kc m p l e R s mm args below meth c h0 Q r.1 r.2.1 r.2.2.1 r.2.2.2) : lx_C g kc m p l e R s mm args below meth c h0 Q pc L st h := by
  obtain ⟨n, tl, rfl, hn, hby, hK, rfl⟩ := lx_nwa_inv hs
  intro H locs ls hR hS hl
  dsimp only at hRc hRs
  rw [List.length_append] at hRc
  rw [lx_hs_push] at hRs
  have hes : lx_es (.inl (t, n.toNatClampNeg, z)) = n.toNatClampNeg := rfl
  rw [hes] at hRs
  have hlen : ([Sum.inl (t, n.toNatClampNeg, z)] : List va_E).length = 1 := rfl
  rw [hlen] at hRc
  subst hcb
  refine va_newaK X.1 X.2.1 (by rw [hty]; exact harr) (g := F0 mm pc ls (.int n :: tl.map (lx_v g))) rfl hd rfl hn rfl (by rw [hty]; exact hby) (by omega) (by omega) (h := g.1 + h.length) hR.1 fun H1 cA e1 z1 o1 hA hcls => ?_
  obtain ⟨t0, ht0⟩ := lx_tys_in (g := g) hin
  have hca : cA = g.2.2.1 t := by
    have h1 := hRA s _ ((lx_X_K X).2 t0 _ ht0).2
    rw [hty] at hcls
    exact Option.some.inj (hcls.symm.trans h1)
  subst hca
  have o1 : ∀ q : Nat, q < H.size → H1[q]? = H[q]? := fun q hq => o1 q (by rw [← hR.1]; exact hq)
  have z1 : H1.size = H.size + 1 := by rw [z1, hR.1]
  have k1 : lx_Rp g (h ++ [.inl (t, n.toNatClampNeg, z)]) H1 := lx_Rp_push hR (by
    show H1[g.1 + h.length]? = some (vp_cell (g.2.2.1 t) (n.toNatClampNeg, lx_x g z))
    rw [e1, hz0, hty]) z1 o1 (lx_wf_push hR.2.2.1 (fun y hy => by cases hy; exact ⟨hin, hz1⟩)) hK
  exact lx_pushed (e1 := .inl (t, n.toNatClampNeg, z)) (pc' := pc + 2) hK hc0 hs0 (K H1 locs ls k1 (lx_S_push hS z1 o1) hl)
end LXT
