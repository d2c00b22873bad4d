/-! rows of natives, statics, constants, arrays of objects -/
section LXN
variable {g : lx_G} {kc : List va_E} {m : Nat} {p : Program} {l : Launch} {e : Env} {R : Room} {s : State} {mm : MethodId} {args : Array Value} {below : List Frame} {meth : Method} {c : Code} {h0 : Nat × Nat} {Q : State → Prop}
variable {pc : Nat} {L : lx_L} {st : List Value} {h : lx_H} {r : Nat × lx_L × List Value × lx_H}
theorem lx_oi_inv (hs : lx_oi pc L st h = some r) : ∃ (a : Nat) (t : List Value), st = .ref a :: t ∧ (t.map fun v => v.category).sum ≤ 8 ∧ r = (pc + 3, L, t, h) := by
  unfold lx_oi at hs
  split at hs
  · split at hs
    · next hc => exact ⟨_, _, rfl, hc, (lx_some hs).symm⟩
    · cases hs
  · cases hs
theorem lx_cp_inv (hs : lx_cp pc L st h = some r) : ∃ (n dp sp : Int32) (a b t n0 n1 : Nat) (tl : List Value) (f f1 : Nat → Int32), st = .int n :: .int dp :: .ref a :: .int sp :: .ref b :: tl ∧ a < lx_K ∧ b < lx_K ∧ ¬ n < 0 ∧ ¬ dp < 0 ∧ ¬ sp < 0 ∧ (tl.map fun v => v.category).sum ≤ 8 ∧ h[b]? = some (.inl (t, n0, .inl f)) ∧ h[a]? = some (.inl (t, n1, .inl f1)) ∧ t < 2 ∧ sp.toNatClampNeg + n.toNatClampNeg ≤ n0 ∧ dp.toNatClampNeg + n.toNatClampNeg ≤ n1 ∧ r = (pc + 3, L, tl, h.set a (.inl (t, n1, .inl (va_cpy f f1 sp.toNatClampNeg dp.toNatClampNeg n.toNatClampNeg)))) := by
  unfold lx_cp at hs
  split at hs
  · split at hs
    · next hc =>
      simp only [Bool.and_eq_true, Bool.not_eq_true', decide_eq_false_iff_not, decide_eq_true_eq] at hc
      obtain ⟨⟨⟨⟨⟨c1, c2⟩, c3⟩, c4⟩, c5⟩, c6⟩ := hc
      split at hs
      · next hb ha =>
        split at hs
        · next hd =>
          simp only [Bool.and_eq_true, decide_eq_true_eq] at hd
          obtain ⟨⟨⟨rfl, d2⟩, d3⟩, d4⟩ := hd
          exact ⟨_, _, _, _, _, _, _, _, _, _, _, rfl, c1, c2, c3, c4, c5, c6, hb, ha, d2, d3, d4, (lx_some hs).symm⟩
        · cases hs
      · cases hs
    · cases hs
  · cases hs
theorem lx_nonneg {z : Int32} (hz : ¬ z < 0) : z.toInt = (z.toNatClampNeg : Int) := by
  have hz0 : (0 : Int) ≤ z.toInt := by
    have := Int32.not_lt.mp hz
    simpa using Int32.le_iff_toInt_le.mp this
  show z.toInt = ((z.toInt.toNat : Nat) : Int)
  omega
theorem lx_w_cp {idx : Nat} (X : lx_X g kc m p s mm args meth c) (hl : Cond.methodLink (xO m) idx arraycopyName ∈ xTS) (hd : decode (xB m) pc = .ok (.invokestatic idx, 3)) (hs : lx_cp pc L st h = some r) (hF : 1 ≤ R.frames) (hLo : 64 ≤ R.locals) (K : lx_C g kc m p l e R s mm args below meth c h0 Q r.1 r.2.1 r.2.2.1 r.2.2.2) : lx_C g kc m p l e R s mm args below meth c h0 Q pc L st h := by
  obtain ⟨n, dp, sp, a, b, t, n0, n1, tl, f, f1, rfl, hka, hkb, hn, hdp, hsp, hsum, hb, ha, ht, h4, h5, rfl⟩ := lx_cp_inv hs
  intro H locs ls hR hS hls
  have hts := lx_X_ts X
  have hwb := hR.2.2.1 b _ hb
  have hwa := hR.2.2.1 a _ ha
  obtain ⟨t0, ht0⟩ := lx_tys_in (g := g) hwa.1
  have hprim : refKind (lx_ty t) = false := by
    rcases (by omega : t = 0 ∨ t = 1) with rfl | rfl <;> rfl
  show W p l e R s mm args below meth c H locs _ _ Q (F0 mm pc ls (.int n :: .int dp :: .ref (lx_ad g a) :: .int sp :: .ref (lx_ad g b) :: tl.map (lx_v g)))
  rw [lx_ad_lt hka, lx_ad_lt hkb]
  intro T hT Xs
  have hc0 : H[g.1 + b]? = some (vp_cell (g.2.2.1 t) (n0, .inl f)) := lx_Rp_at hR hb
  have hc1 : H[g.1 + a]? = some (vp_cell (g.2.2.1 t) (n1, .inl f1)) := lx_Rp_at hR ha
  obtain ⟨-, k0, hk0, cm0, hkk0⟩ := ((lx_X_K X).2 t0 _ ht0).1 n0 (fun j => .int (f j))
  obtain ⟨vm', X', step⟩ := Xs.arraycopy X.1 (lx_X_own X) (hts _ hl) (hts _ xw_native) (hts _ xw_copyS) (hts _ xw_sysI) (src := g.1 + b) (dst := g.1 + a) (cs := vp_cell (g.2.2.1 t) (n0, .inl f)) (cd := vp_cell (g.2.2.1 t) (n1, .inl f1)) (srcPos := sp) (destPos := dp) (n := n) (by rw [hT]; exact hc0) (by rw [hT]; exact hc1)
    (fun _ h => by cases h) (fun _ h => by cases h) (fun h => by cases h) (fun h => by cases h) hk0 hk0 hkk0 hkk0 (by simp [hprim]) hsp hdp hn
    (by rw [lx_nonneg hsp, lx_nonneg hn]; show ¬ _ > ((arrV _ n0 (fun j => .int (f j))).slots.size : Int); rw [arrV_size]; omega)
    (by rw [lx_nonneg hdp, lx_nonneg hn]; show ¬ _ > ((arrV _ n1 (fun j => .int (f1 j))).slots.size : Int); rw [arrV_size]; omega)
    (fun vm₁ _ i hi => by
      have e : (vp_cell (g.2.2.1 t) (n0, .inl f)).slots.getD (sp.toNatClampNeg + i) .null = .int (f (sp.toNatClampNeg + i)) := by
        show (arrV _ n0 (fun j => .int (f j))).slots.getD _ _ = _
        rw [Array.getD_eq_getD_getElem?, arrV_read _ _ (by omega)]
        rfl
      refine ⟨?_, ?_⟩
      · rw [e]
        exact hwb.2 f rfl _
      · rw [e]
        exact trivial)
    (g := F0 mm pc ls (.int n :: .int dp :: .ref (g.1 + a) :: .int sp :: .ref (g.1 + b) :: tl.map (lx_v g))) rfl (by rw [X.2.2.1]; exact hls.1) (rest := tl.map (lx_v g)) rfl (by rw [X.2.1]; exact hd) hF (by
      have := lx_sum g tl
      show 2 * 0 + ((tl.map (lx_v g)).map fun v => v.category).sum + (nativeFrameWords "java/lang/System" "arraycopy" 5 + 11) ≤ _
      rw [this]
      have e : nativeFrameWords "java/lang/System" "arraycopy" 5 = 7 := by decide
      rw [e]
      omega)
  have e1 : copied (vp_cell (g.2.2.1 t) (n0, .inl f)) (vp_cell (g.2.2.1 t) (n1, .inl f1)) sp dp n = vp_cell (g.2.2.1 t) (n1, .inl (va_cpy f f1 sp.toNatClampNeg dp.toNatClampNeg n.toNatClampNeg)) := va_copied (fun z => .int z) _ _ f f1 h4
  rw [e1] at X' step
  have hlt : g.1 + a < H.size := (Array.getElem?_eq_some_iff.mp hc1).1
  have hheap : ((T.setVm vm').setCell (g.1 + a) (vp_cell (g.2.2.1 t) (n1, .inl (va_cpy f f1 sp.toNatClampNeg dp.toNatClampNeg n.toNatClampNeg)))).heap = H.setIfInBounds (g.1 + a) (vp_cell (g.2.2.1 t) (n1, .inl (va_cpy f f1 sp.toNatClampNeg dp.toNatClampNeg n.toNatClampNeg))) := by rw [← hT]; rfl
  have oq : ∀ q : Nat, q ≠ g.1 + a → (H.setIfInBounds (g.1 + a) (vp_cell (g.2.2.1 t) (n1, .inl (va_cpy f f1 sp.toNatClampNeg dp.toNatClampNeg n.toNatClampNeg))))[q]? = H[q]? := fun q hq => by simp [Array.getElem?_setIfInBounds, Ne.symm hq]
  have hz : (H.setIfInBounds (g.1 + a) (vp_cell (g.2.2.1 t) (n1, .inl (va_cpy f f1 sp.toNatClampNeg dp.toNatClampNeg n.toNatClampNeg)))).size = H.size := by simp
  have hR1 := lx_Rp_set (e := .inl (t, n1, .inl (va_cpy f f1 sp.toNatClampNeg dp.toNatClampNeg n.toNatClampNeg))) hR ha (show (H.setIfInBounds (g.1 + a) _)[g.1 + a]? = some _ by simp [Array.getElem?_setIfInBounds, hlt]; rfl) hz oq (lx_wf_set hR.2.2.1 (fun y hy => by
    cases hy
    refine ⟨hwa.1, fun f' hf i => ?_⟩
    cases hf
    show fits _ (.int (if _ then f _ else f1 i)) = true
    split
    · exact hwb.2 f rfl _
    · exact hwa.2 f1 rfl _))
  obtain ⟨t2, a1, b1⟩ := W.cs (by show _ = (h.set a _).length - _; rw [List.length_set]) (by show _ = lx_hs (h.set a _) - _; rw [lx_hs_set (e := .inl (t, n1, .inl (va_cpy f f1 sp.toNatClampNeg dp.toNatClampNeg n.toNatClampNeg))) ha rfl]) (K _ _ ls hR1 ⟨by rw [hz]; exact hS.1, fun q g1 g2 => by
      rw [oq q (fun e => g2 (by rw [e]; exact Nat.le_add_right _ _))]
      exact hS.2.1 q g1 g2, fun q hq => by
      rcases List.mem_append.mp hq with h | h
      · exact hS.2.2 q h
      · obtain ⟨z, -, hz⟩ := List.mem_map.mp h
        rw [← hz]
        exact Nat.le_add_right _ _⟩ hls) _ hheap X'
  exact ⟨t2, step t2 a1, b1⟩
theorem lx_w_oi {idx : Nat} (X : lx_X g kc m p s mm args meth c) (hl : Cond.methodLink (xO m) idx Lib.objectInit ∈ xTS) (hcode : Cond.code Lib.objectInit ⟨#[0xb1]⟩ 1 none ∈ xTS) (hd : decode (xB m) pc = .ok (.invokespecial idx, 3)) (hs : lx_oi pc L st h = some r) (hF : 1 ≤ R.frames) (hLo : 64 ≤ R.locals) (K : lx_C g kc m p l e R s mm args below meth c h0 Q r.1 r.2.1 r.2.2.1 r.2.2.2) : lx_C g kc m p l e R s mm args below meth c h0 Q pc L st h := by
  obtain ⟨a, t, rfl, hsum, rfl⟩ := lx_oi_inv hs
  intro H locs ls hR hS hls
  have hts := lx_X_ts X
  refine W.objInit X.1 X.2.1 (lx_X_own X) (hts _ hl) (hts _ xw_objI) (hts _ hcode) (g := F0 mm pc ls ((Value.ref a :: t).map (lx_v g))) rfl (by rw [X.2.2.1]; exact hls.1) (a := lx_ad g a) (rest := t.map (lx_v g)) rfl hd hF (by
    show 2 * 0 + ((t.map (lx_v g)).map fun v => v.category).sum + 12 ≤ _
    rw [lx_sum]; omega) (K H locs ls hR hS hls)
theorem lx_m2_inv {f : Int32 → Int32 → Int32} (hs : lx_m2 f pc L st h = some r) : ∃ (y x : Int32) (t : List Value), st = .int y :: .int x :: t ∧ (t.map fun v => v.category).sum ≤ 8 ∧ r = (pc + 3, L, .int (f x y) :: t, h) := by
  unfold lx_m2 at hs
  split at hs
  · split at hs
    · next hc => exact ⟨_, _, _, rfl, hc, (lx_some hs).symm⟩
    · cases hs
  · cases hs
theorem lx_m1_inv {f : Int32 → Int32} (hs : lx_m1 f pc L st h = some r) : ∃ (x : Int32) (t : List Value), st = .int x :: t ∧ (t.map fun v => v.category).sum ≤ 8 ∧ r = (pc + 3, L, .int (f x) :: t, h) := by
  unfold lx_m1 at hs
  split at hs
  · split at hs
    · next hc => exact ⟨_, _, rfl, hc, (lx_some hs).symm⟩
    · cases hs
  · cases hs
theorem lx_m5_inv {f : Int64 → Int64 → Int64} (hs : lx_m5 f pc L st h = some r) : ∃ (y x : Int64) (t : List Value), st = .long y :: .long x :: t ∧ (t.map fun v => v.category).sum ≤ 8 ∧ r = (pc + 3, L, .long (f x y) :: t, h) := by
  unfold lx_m5 at hs
  split at hs
  · split at hs
    · next hc => exact ⟨_, _, _, rfl, hc, (lx_some hs).symm⟩
    · cases hs
  · cases hs
theorem lx_ml {ls : Array Slot} (X : lx_X g kc m p s mm args meth c) (hls : lv_has ls (xM m) (lx_tl g L)) : c.maxLocals = ls.size := by rw [X.2.2.1]; exact hls.1.symm
/-- all that 'invokestatic' and 'invokespecial' do without a frame of ours -/
theorem lx_w_nat {idx : Nat} {i : Instr} (hi : i = .invokestatic idx ∨ i = .invokespecial idx) (hk4 : i = .invokespecial idx → xP m idx = some 4) (hk0 : i = .invokestatic idx → xP m idx ≠ some 4) (X : lx_X g kc m p s mm args meth c) (hd : decode (xB m) pc = .ok (i, 3)) (hs : lx_nat (xP m idx) pc L st h = some r) (hF : 1 ≤ R.frames) (hLo : 64 ≤ R.locals) (hRc : h.length - h0.1 ≤ R.cells) (hRs : lx_hs h - h0.2 ≤ R.slots) (K : lx_C g kc m p l e R s mm args below meth c h0 Q r.1 r.2.1 r.2.2.1 r.2.2.2) : lx_C g kc m p l e R s mm args below meth c h0 Q pc L st h := by
  have hts := lx_X_ts X
  have hown := lx_X_own X
  have sm : ∀ t : List Value, (t.map fun v => v.category).sum ≤ 8 → ((t.map (lx_v g)).map fun v => v.category).sum ≤ 8 := fun t ht => by rw [lx_sum]; exact ht
  rcases hi with rfl | rfl
  · have h4 := hk0 rfl
    unfold lx_nat at hs
    split at hs
    · next hP =>
      exact lx_w_cp X (xP_ok hP) hd hs hF hLo K
    · next hP =>
      obtain ⟨y, x, t, rfl, hsum, rfl⟩ := lx_m2_inv hs
      intro H locs ls hR hS hls
      have := sm t hsum
      exact va_mmax X.1 X.2.1 (lx_ml X hls) hown (hts _ (xP_ok hP)) (hts _ xw_ms1) (hts _ xw_mi) (hts _ xw_mc1) hF (by omega) hRc hRs hd (K H locs ls hR hS hls)
    · next hP =>
      obtain ⟨y, x, t, rfl, hsum, rfl⟩ := lx_m2_inv hs
      intro H locs ls hR hS hls
      have := sm t hsum
      exact va_mmin X.1 X.2.1 (lx_ml X hls) hown (hts _ (xP_ok hP)) (hts _ xw_ms2) (hts _ xw_mi) (hts _ xw_mc2) hF (by omega) hRc hRs hd (K H locs ls hR hS hls)
    · next hP =>
      obtain ⟨x, t, rfl, hsum, rfl⟩ := lx_m1_inv hs
      intro H locs ls hR hS hls
      have := sm t hsum
      exact va_mabs X.1 X.2.1 (lx_ml X hls) hown (hts _ (xP_ok hP)) (hts _ xw_ms3) (hts _ xw_mi) (hts _ xw_mc3) hF (by omega) hRc hRs hd (K H locs ls hR hS hls)
    · next hP => exact absurd hP h4
    · next hP =>
      obtain ⟨y, x, t, rfl, hsum, rfl⟩ := lx_m5_inv hs
      intro H locs ls hR hS hls
      have := sm t hsum
      exact va_mmin_long X.1 X.2.1 (lx_ml X hls) hown (hts _ (xP_ok hP)) (hts _ xw_ms5) (hts _ xw_mi) (hts _ xw_mc5) hF (by omega) hRc hRs hd (K H locs ls hR hS hls)
    · cases hs
  · have hP := hk4 rfl
    rw [hP] at hs
    exact lx_w_oi X (xP_ok hP) xw_objC hd hs hF hLo K
theorem lx_w_gs {idx : Nat} (X : lx_X g kc m p s mm args meth c) (hd : decode (xB m) pc = .ok (.getstatic idx, 3)) (hs : lx_psh (xG m idx) pc 3 L st h = some r) (K : lx_C g kc m p l e R s mm args below meth c h0 Q r.1 r.2.1 r.2.2.1 r.2.2.2) : lx_C g kc m p l e R s mm args below meth c h0 Q pc L st h := by
  obtain ⟨v, hv, rfl⟩ := lx_psh_inv hs
  obtain ⟨C, n, d, hz, hw⟩ := xG_ok hv
  intro H locs ls hR hS hls
  have hZ := (lx_X_E X).2.2.2.2.2.2.1 _ hz
  rcases hw with hw | ⟨host, hw⟩
  · exact va_gets X.1 X.2.1 hZ hS (lx_X_own X) (lx_X_ts X _ hw) (fun _ h9 => h9) hd (K H locs ls hR hS hls)
  · exact va_getsN X.1 X.2.1 hZ hS (lx_X_own X) (va_Nw.use rfl ((lx_X_E X).2.1 _ hw)) (fun _ h9 => h9) hd (K H locs ls hR hS hls)
theorem lx_ps1_inv {o : Option Value} {len : Nat} (hs : lx_ps1 o pc len L st h = some r) : (∃ v, o = some (.int v) ∧ r = (pc + len, L, .int v :: st, h)) ∨ ∃ v, o = some (.ref v) ∧ r = (pc + len, L, .ref v :: st, h) := by
  unfold lx_ps1 at hs
  split at hs
  · exact Or.inl ⟨_, rfl, (lx_some hs).symm⟩
  · exact Or.inr ⟨_, rfl, (lx_some hs).symm⟩
  · cases hs
theorem lx_ps2_inv {o : Option Value} {len : Nat} (hs : lx_ps2 o pc len L st h = some r) : ∃ v, o = some (.long v) ∧ r = (pc + len, L, .long v :: st, h) := by
  unfold lx_ps2 at hs
  split at hs
  · exact ⟨_, rfl, (lx_some hs).symm⟩
  · cases hs
theorem lx_adK (g : lx_G) (k : Nat) : lx_ad g (lx_K + k) = g.2.2.2.1 k := by
  unfold lx_ad
  rw [if_neg (by omega), Nat.add_sub_cancel_left]
theorem lx_w_ldc {idx : Nat} (X : lx_X g kc m p s mm args meth c) (hd : decode (xB m) pc = .ok (.ldc idx, 2)) (hs : lx_ps1 (xD m idx) pc 2 L st h = some r) (K : lx_C g kc m p l e R s mm args below meth c h0 Q r.1 r.2.1 r.2.2.1 r.2.2.2) : lx_C g kc m p l e R s mm args below meth c h0 Q pc L st h := by
  rcases lx_ps1_inv hs with ⟨v, hv, rfl⟩ | ⟨v, hv, rfl⟩
  · intro H locs ls hR hS hls
    rcases xD_ok hv with ⟨z, e, hw⟩ | ⟨z, e, hw⟩ | ⟨tx, k, e, hw⟩
    · cases e
      exact lv_ldc X.1 X.2.1 (lx_X_own X) (lx_X_ts X _ hw) hd (K H locs ls hR hS hls)
    · cases e
    · cases e
  · intro H locs ls hR hS hls
    rcases xD_ok hv with ⟨z, e, hw⟩ | ⟨z, e, hw⟩ | ⟨tx, k, e, hw⟩
    · cases e
    · cases e
    · cases e
      have k1 := K H locs ls hR hS hls
      have e2 : (Value.ref (lx_K + k) :: st).map (lx_v g) = .ref (g.2.2.2.1 k) :: st.map (lx_v g) := by
        show Value.ref (lx_ad g (lx_K + k)) :: _ = _
        rw [lx_adK]
      dsimp only at k1
      rw [e2] at k1
      have hZ := (lx_X_E X).2.2.2.2.2.2.2 (xO m, idx, tx, k) hw
      dsimp only at hZ
      exact va_ldcS X.1 X.2.1 (lx_X_own X) hZ hd k1
theorem lx_w_ldcw {idx : Nat} (X : lx_X g kc m p s mm args meth c) (hd : decode (xB m) pc = .ok (.ldc_w idx, 3)) (hs : lx_ps1 (xD m idx) pc 3 L st h = some r) (K : lx_C g kc m p l e R s mm args below meth c h0 Q r.1 r.2.1 r.2.2.1 r.2.2.2) : lx_C g kc m p l e R s mm args below meth c h0 Q pc L st h := by
  rcases lx_ps1_inv hs with ⟨v, hv, rfl⟩ | ⟨v, hv, rfl⟩
  · intro H locs ls hR hS hls
    rcases xD_ok hv with ⟨z, e, hw⟩ | ⟨z, e, hw⟩ | ⟨tx, k, e, hw⟩
    · cases e
      exact lv_ldcw X.1 X.2.1 (lx_X_own X) (lx_X_ts X _ hw) hd (K H locs ls hR hS hls)
    · cases e
    · cases e
  · intro H locs ls hR hS hls
    rcases xD_ok hv with ⟨z, e, hw⟩ | ⟨z, e, hw⟩ | ⟨tx, k, e, hw⟩
    · cases e
    · cases e
    · cases e
      have k1 := K H locs ls hR hS hls
      have e2 : (Value.ref (lx_K + k) :: st).map (lx_v g) = .ref (g.2.2.2.1 k) :: st.map (lx_v g) := by
        show Value.ref (lx_ad g (lx_K + k)) :: _ = _
        rw [lx_adK]
      dsimp only at k1
      rw [e2] at k1
      have hZ := (lx_X_E X).2.2.2.2.2.2.2 _ hw
      intro T hT Xs
      obtain ⟨t, a1, b1⟩ := k1 T hT Xs
      exact ⟨t, Jvm.Stand.ldcStringW Xs X.1 (lx_X_own X) (text := tx) (a := g.2.2.2.1 k) hZ.1 hZ.2 (g := F0 mm pc ls (st.map (lx_v g))) rfl (by rw [X.2.1]; exact hd) t a1, b1⟩
theorem lx_w_ldc2 {idx : Nat} (X : lx_X g kc m p s mm args meth c) (hd : decode (xB m) pc = .ok (.ldc2_w idx, 3)) (hs : lx_ps2 (xD m idx) pc 3 L st h = some r) (K : lx_C g kc m p l e R s mm args below meth c h0 Q r.1 r.2.1 r.2.2.1 r.2.2.2) : lx_C g kc m p l e R s mm args below meth c h0 Q pc L st h := by
  obtain ⟨v, hv, rfl⟩ := lx_ps2_inv hs
  intro H locs ls hR hS hls
  rcases xD_ok hv with ⟨z, e, hw⟩ | ⟨z, e, hw⟩ | ⟨tx, k, e, hw⟩
  · cases e
  · cases e
    exact lv_ldc2 X.1 X.2.1 (lx_X_own X) (lx_X_ts X _ hw) hd (K H locs ls hR hS hls)
  · cases e
end LXN
