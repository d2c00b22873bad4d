/-! rows of instructions that read or write cells -/
theorem lx_tsw_inv {dflt lo hi : Int} {offs : Array Int} {pc : Nat} {L : lx_L} {st : List Value} {h : lx_H} {r : Nat × lx_L × List Value × lx_H} (hs : lx_tsw pc dflt lo hi offs L st h = some r) : ∃ (x : Int32) (t : List Value), st = .int x :: t ∧ (((x.toInt < lo ∨ hi < x.toInt) ∧ lx_jmp pc dflt L t h = some r) ∨ (¬ (x.toInt < lo ∨ hi < x.toInt) ∧ ∃ o, offs[(x.toInt - lo).toNat]? = some o ∧ lx_jmp pc o L t h = some r)) := by
  unfold lx_tsw at hs
  split at hs
  · refine ⟨_, _, rfl, ?_⟩
    split at hs
    · next hx => exact Or.inl ⟨hx, hs⟩
    · next hx =>
      refine Or.inr ⟨hx, ?_⟩
      split at hs
      · next o ho => exact ⟨o, ho, hs⟩
      · cases hs
  · cases hs
theorem lx_lsw_inv {dflt : Int} {ps : Array (Int × Int)} {pc : Nat} {L : lx_L} {st : List Value} {h : lx_H} {r : Nat × lx_L × List Value × lx_H} (hs : lx_lsw pc dflt ps L st h = some r) : ∃ (x : Int32) (t : List Value), st = .int x :: t ∧ (ps.toList.zip (ps.toList.drop 1)).all (fun (a, next) => a.1 < next.1) = true ∧ lx_jmp pc (Op.lookupswitch.offset ps.toList dflt x.toInt) L t h = some r := by
  unfold lx_lsw at hs
  split at hs
  · split at hs
    · next hx => exact ⟨_, _, rfl, hx, hs⟩
    · cases hs
  · cases hs
theorem lx_ald_inv {kc : List va_E} {T : Nat → Bool} {pc : Nat} {L : lx_L} {st : List Value} {h : lx_H} {r : Nat × lx_L × List Value × lx_H} (hs : lx_ald kc T pc L st h = some r) : ∃ (i : Int32) (a : Nat) (tl : List Value) (t n : Nat) (f : Nat → Int32), st = .int i :: .ref a :: tl ∧ lx_at kc h a = some (.inl (t, n, .inl f)) ∧ T t = true ∧ lx_in i n = true ∧ r = (pc + 1, L, .int (f i.toNatClampNeg) :: tl, h) := by
  unfold lx_ald at hs
  split at hs
  · split at hs
    · next hx =>
      split at hs
      · next hc => exact ⟨_, _, _, _, _, _, rfl, hx, hc.1, hc.2, (lx_some hs).symm⟩
      · cases hs
    · cases hs
  · cases hs
theorem lx_all_inv {kc : List va_E} {pc : Nat} {L : lx_L} {st : List Value} {h : lx_H} {r : Nat × lx_L × List Value × lx_H} (hs : lx_all kc pc L st h = some r) : ∃ (i : Int32) (a : Nat) (tl : List Value) (n : Nat) (f : Nat → Int64), st = .int i :: .ref a :: tl ∧ lx_at kc h a = some (.inl (2, n, .inr (.inl f))) ∧ lx_in i n = true ∧ r = (pc + 1, L, .long (f i.toNatClampNeg) :: tl, h) := by
  unfold lx_all at hs
  split at hs
  · split at hs
    · next hx =>
      split at hs
      · next hc => exact ⟨_, _, _, _, _, rfl, by rw [hx, hc.1], hc.2, (lx_some hs).symm⟩
      · cases hs
    · cases hs
  · cases hs
theorem lx_alq_inv {pc : Nat} {L : lx_L} {st : List Value} {h : lx_H} {r : Nat × lx_L × List Value × lx_H} (hs : lx_alq pc L st h = some r) : ∃ (i : Int32) (a : Nat) (tl : List Value) (t n : Nat) (f : Nat → Option Nat), st = .int i :: .ref a :: tl ∧ a < lx_K ∧ h[a]? = some (.inl (t, n, .inr (.inr (.inr (.inr f))))) ∧ 5 ≤ t ∧ lx_in i n = true ∧ r = (pc + 1, L, va_rf (f i.toNatClampNeg) :: tl, h) := by
  unfold lx_alq at hs
  split at hs
  · split at hs
    · next ha =>
      split at hs
      · next hx =>
        split at hs
        · next hc => exact ⟨_, _, _, _, _, _, rfl, ha, hx, hc.1, hc.2, (lx_some hs).symm⟩
        · cases hs
      · cases hs
    · cases hs
  · cases hs
theorem lx_ast_inv {T : Nat → Bool} {nar : Nat → Int32 → Int32} {pc : Nat} {L : lx_L} {st : List Value} {h : lx_H} {r : Nat × lx_L × List Value × lx_H} (hs : lx_ast T nar pc L st h = some r) : ∃ (x i : Int32) (a : Nat) (tl : List Value) (t n : Nat) (f : Nat → Int32), st = .int x :: .int i :: .ref a :: tl ∧ a < lx_K ∧ h[a]? = some (.inl (t, n, .inl f)) ∧ T t = true ∧ lx_in i n = true ∧ r = (pc + 1, L, tl, h.set a (.inl (t, n, .inl (upd f i.toNatClampNeg (nar t x))))) := by
  unfold lx_ast at hs
  split at hs
  · split at hs
    · next ha =>
      split at hs
      · next hx =>
        split at hs
        · next hc => exact ⟨_, _, _, _, _, _, _, rfl, ha, hx, hc.1, hc.2, (lx_some hs).symm⟩
        · cases hs
      · cases hs
    · cases hs
  · cases hs
theorem lx_asl_inv {pc : Nat} {L : lx_L} {st : List Value} {h : lx_H} {r : Nat × lx_L × List Value × lx_H} (hs : lx_asl pc L st h = some r) : ∃ (x : Int64) (i : Int32) (a : Nat) (tl : List Value) (n : Nat) (f : Nat → Int64), st = .long x :: .int i :: .ref a :: tl ∧ a < lx_K ∧ h[a]? = some (.inl (2, n, .inr (.inl f))) ∧ lx_in i n = true ∧ r = (pc + 1, L, tl, h.set a (.inl (2, n, .inr (.inl (vp_updL f i.toNatClampNeg x))))) := by
  unfold lx_asl at hs
  split at hs
  · split at hs
    · next ha =>
      split at hs
      · next hx =>
        split at hs
        · next hc =>
          obtain ⟨rfl, hi⟩ := hc
          exact ⟨_, _, _, _, _, _, rfl, ha, hx, hi, (lx_some hs).symm⟩
        · cases hs
      · cases hs
    · cases hs
  · cases hs
theorem lx_len_inv {kc : List va_E} {pc : Nat} {L : lx_L} {st : List Value} {h : lx_H} {r : Nat × lx_L × List Value × lx_H} (hs : lx_len kc pc L st h = some r) : ∃ (a : Nat) (tl : List Value) (x : ClassId × vp_A), st = .ref a :: tl ∧ lx_at kc h a = some (.inl x) ∧ r = (pc + 1, L, .int (Int32.ofNat x.2.1) :: tl, h) := by
  unfold lx_len at hs
  split at hs
  · split at hs
    · next hx => exact ⟨_, _, _, rfl, hx, (lx_some hs).symm⟩
    · cases hs
  · cases hs
theorem lx_nwa_inv {t bytes : Nat} {z : (Nat → Int32) ⊕ (Nat → Int64) ⊕ (Nat → UInt32) ⊕ (Nat → UInt64) ⊕ (Nat → Option Nat)} {pc : Nat} {L : lx_L} {st : List Value} {h : lx_H} {r : Nat × lx_L × List Value × lx_H} (hs : lx_nwa t bytes z pc L st h = some r) : ∃ (n : Int32) (tl : List Value), st = .int n :: tl ∧ ¬ n < 0 ∧ n.toNatClampNeg * bytes ≤ 536870912 ∧ h.length < lx_K ∧ r = (pc + 2, L, .ref h.length :: tl, h ++ [.inl (t, n.toNatClampNeg, z)]) := by
  unfold lx_nwa at hs
  split at hs
  · split at hs
    · next hc =>
      simp only [Bool.and_eq_true, Bool.not_eq_true', decide_eq_false_iff_not, decide_eq_true_eq] at hc
      exact ⟨_, _, rfl, hc.1.1, hc.1.2, hc.2, (lx_some hs).symm⟩
    · cases hs
  · cases hs
theorem lx_at_lt {kc : List va_E} {h : lx_H} {a : Nat} (ha : a < lx_K) : lx_at kc h a = h[a]? := if_pos ha
theorem lx_at_ge {kc : List va_E} {h : lx_H} {a : Nat} (ha : ¬ a < lx_K) : lx_at kc h a = kc[a - lx_K]? := if_neg ha
theorem lx_ad_ge {g : lx_G} {a : Nat} (ha : ¬ a < lx_K) : lx_ad g a = g.2.2.2.1 (a - lx_K) := if_neg ha
section LXH
variable {g : lx_G} {kc : List va_E} {m : Nat} {p : Program} {l : Launch} {e : Env} {R : Room} {s : State} {mm : MethodId} {args : Array Value} {below : List Frame} {meth : Method} {c : Code} {h0 : Nat × Nat} {Q : State → Prop}
variable {pc : Nat} {L : lx_L} {st : List Value} {h : lx_H} {r : Nat × lx_L × List Value × lx_H}
theorem lx_w_tsw {dflt lo hi : Int} {offs : Array Int} {len : Nat} (X : lx_X g kc m p s mm args meth c) (hd : decode (xB m) pc = .ok (.tableswitch dflt lo hi offs, len)) (hs : lx_tsw pc dflt lo hi offs L st h = some r) (K : lx_C g kc m p l e R s mm args below meth c h0 Q r.1 r.2.1 r.2.2.1 r.2.2.2) : lx_C g kc m p l e R s mm args below meth c h0 Q pc L st h := by
  obtain ⟨x, t, rfl, hc⟩ := lx_tsw_inv hs
  intro H locs ls hR hS hl
  rcases hc with ⟨hx, hj⟩ | ⟨hx, o, ho, hj⟩
  · obtain ⟨tg, ht, rfl⟩ := lx_jmp_inv hj
    exact lv_tableOut X.1 X.2.1 hd hx ht (K H locs ls hR hS hl)
  · obtain ⟨tg, ht, rfl⟩ := lx_jmp_inv hj
    exact lv_tableIn X.1 X.2.1 hd (fun z => hx (Or.inl z)) (fun z => hx (Or.inr z)) ho ht (K H locs ls hR hS hl)
theorem lx_w_lsw {dflt : Int} {ps : Array (Int × Int)} {len : Nat} (X : lx_X g kc m p s mm args meth c) (hd : decode (xB m) pc = .ok (.lookupswitch dflt ps, len)) (hs : lx_lsw pc dflt ps L st h = some r) (K : lx_C g kc m p l e R s mm args below meth c h0 Q r.1 r.2.1 r.2.2.1 r.2.2.2) : lx_C g kc m p l e R s mm args below meth c h0 Q pc L st h := by
  obtain ⟨x, t, rfl, hp, hj⟩ := lx_lsw_inv hs
  intro H locs ls hR hS hl
  obtain ⟨tg, ht, rfl⟩ := lx_jmp_inv hj
  exact lv_lookup X.1 X.2.1 hd hp rfl ht (K H locs ls hR hS hl)
theorem lx_X_K (X : lx_X g kc m p s mm args meth c) : va_K g.2.1 xC (lx_tys g) s := X.2.2.2.2.2.2.2.2.1
theorem lx_X_C (X : lx_X g kc m p s mm args meth c) {k : Nat} {e : va_E} (h : kc[k]? = some e) : lx_kO g e (g.2.2.2.1 k) s s.heap := X.2.2.2.2.2.2.2.2.2.2.2.2.2.1 k e h
theorem lx_w_iald (X : lx_X g kc m p s mm args meth c) (hd : decode (xB m) pc = .ok (.iaload, 1)) (hs : lx_ald kc (fun t => t == 0) pc L st h = some r) (K : lx_C g kc m p l e R s mm args below meth c h0 Q r.1 r.2.1 r.2.2.1 r.2.2.2) : lx_C g kc m p l e R s mm args below meth c h0 Q pc L st h := by
  obtain ⟨i, a, tl, t, n, f, rfl, ha, hT, hi, rfl⟩ := lx_ald_inv hs
  obtain rfl : t = 0 := by simpa using hT
  intro H locs ls hR hS hl
  show W p l e R s mm args below meth c H locs _ _ Q (F0 mm pc ls (.int i :: .ref (lx_ad g a) :: tl.map (lx_v g)))
  by_cases hk : a < lx_K
  · rw [lx_at_lt hk] at ha
    rw [lx_ad_lt hk]
    obtain ⟨t0, ht0⟩ := lx_tys_in (g := g) (hR.2.2.1 a _ ha).1
    exact va_iald X.1 X.2.1 (lx_X_K X) hR.2.1 a t0 (lx_ws_at ha) ht0 (lx_in_ok hi) hd (K H locs ls hR hS hl)
  · rw [lx_at_ge hk] at ha
    rw [lx_ad_ge hk]
    exact va_ti X.1 X.2.1 (lx_X_C X ha) hS (lx_in_ok hi) rfl hd (K H locs ls hR hS hl)
theorem lx_w_cald (X : lx_X g kc m p s mm args meth c) (hd : decode (xB m) pc = .ok (.caload, 1)) (hs : lx_ald kc (fun t => t == 1) pc L st h = some r) (K : lx_C g kc m p l e R s mm args below meth c h0 Q r.1 r.2.1 r.2.2.1 r.2.2.2) : lx_C g kc m p l e R s mm args below meth c h0 Q pc L st h := by
  obtain ⟨i, a, tl, t, n, f, rfl, ha, hT, hi, rfl⟩ := lx_ald_inv hs
  obtain rfl : t = 1 := by simpa using hT
  intro H locs ls hR hS hl
  show W p l e R s mm args below meth c H locs _ _ Q (F0 mm pc ls (.int i :: .ref (lx_ad g a) :: tl.map (lx_v g)))
  by_cases hk : a < lx_K
  · rw [lx_at_lt hk] at ha
    rw [lx_ad_lt hk]
    obtain ⟨t0, ht0⟩ := lx_tys_in (g := g) (hR.2.2.1 a _ ha).1
    exact va_cald X.1 X.2.1 (lx_X_K X) hR.2.1 a t0 (lx_ws_at ha) ht0 (lx_in_ok hi) hd (K H locs ls hR hS hl)
  · rw [lx_at_ge hk] at ha
    rw [lx_ad_ge hk]
    exact va_tc X.1 X.2.1 (lx_X_C X ha) hS (lx_in_ok hi) rfl hd (K H locs ls hR hS hl)
theorem lx_w_bald (X : lx_X g kc m p s mm args meth c) (hd : decode (xB m) pc = .ok (.baload, 1)) (hs : lx_ald kc (fun t => t == 3 || t == 4) pc L st h = some r) (K : lx_C g kc m p l e R s mm args below meth c h0 Q r.1 r.2.1 r.2.2.1 r.2.2.2) : lx_C g kc m p l e R s mm args below meth c h0 Q pc L st h := by
  obtain ⟨i, a, tl, t, n, f, rfl, ha, hT, hi, rfl⟩ := lx_ald_inv hs
  have hT : t = 3 ∨ t = 4 := by simpa using hT
  intro H locs ls hR hS hl
  show W p l e R s mm args below meth c H locs _ _ Q (F0 mm pc ls (.int i :: .ref (lx_ad g a) :: tl.map (lx_v g)))
  by_cases hk : a < lx_K
  · rw [lx_at_lt hk] at ha
    rw [lx_ad_lt hk]
    obtain ⟨t0, ht0⟩ := lx_tys_in (g := g) (hR.2.2.1 a _ ha).1
    rcases hT with rfl | rfl
    · exact va_bald X.1 X.2.1 (lx_X_K X) hR.2.1 a t0 (lx_ws_at ha) ht0 (lx_in_ok hi) hd (K H locs ls hR hS hl)
    · exact va_zald X.1 X.2.1 (lx_X_K X) hR.2.1 a t0 (lx_ws_at ha) ht0 (lx_in_ok hi) hd (K H locs ls hR hS hl)
  · rw [lx_at_ge hk] at ha
    rw [lx_ad_ge hk]
    rcases hT with rfl | rfl
    · exact va_tb X.1 X.2.1 (lx_X_C X ha) hS (lx_in_ok hi) rfl hd (K H locs ls hR hS hl)
    · exact va_tz X.1 X.2.1 (lx_X_C X ha) hS (lx_in_ok hi) rfl hd (K H locs ls hR hS hl)
theorem lx_w_lald (X : lx_X g kc m p s mm args meth c) (hd : decode (xB m) pc = .ok (.laload, 1)) (hs : lx_all kc pc L st h = some r) (K : lx_C g kc m p l e R s mm args below meth c h0 Q r.1 r.2.1 r.2.2.1 r.2.2.2) : lx_C g kc m p l e R s mm args below meth c h0 Q pc L st h := by
  obtain ⟨i, a, tl, n, f, rfl, ha, hi, rfl⟩ := lx_all_inv hs
  intro H locs ls hR hS hl
  show W p l e R s mm args below meth c H locs _ _ Q (F0 mm pc ls (.int i :: .ref (lx_ad g a) :: tl.map (lx_v g)))
  by_cases hk : a < lx_K
  · rw [lx_at_lt hk] at ha
    rw [lx_ad_lt hk]
    obtain ⟨t0, ht0⟩ := lx_tys_in (g := g) (hR.2.2.1 a _ ha).1
    exact va_lald X.1 X.2.1 (lx_X_K X) hR.2.1 a t0 (lx_ws_at ha) ht0 (lx_in_ok hi) hd (K H locs ls hR hS hl)
  · rw [lx_at_ge hk] at ha
    rw [lx_ad_ge hk]
    exact va_tl X.1 X.2.1 (lx_X_C X ha) hS (lx_in_ok hi) rfl hd (K H locs ls hR hS hl)
theorem lx_rf (g : lx_G) (o : Option Nat) : va_rf (o.map (lx_ad g)) = lx_v g (va_rf o) := by cases o <;> rfl
theorem lx_w_aald (X : lx_X g kc m p s mm args meth c) (hd : decode (xB m) pc = .ok (.aaload, 1)) (hs : lx_alq pc L st h = some r) (K : lx_C g kc m p l e R s mm args below meth c h0 Q r.1 r.2.1 r.2.2.1 r.2.2.2) : lx_C g kc m p l e R s mm args below meth c h0 Q pc L st h := by
  obtain ⟨i, a, tl, t, n, f, rfl, hk, ha, h5, hi, rfl⟩ := lx_alq_inv hs
  intro H locs ls hR hS hl
  show W p l e R s mm args below meth c H locs _ _ Q (F0 mm pc ls (.int i :: .ref (lx_ad g a) :: tl.map (lx_v g)))
  rw [lx_ad_lt hk]
  obtain ⟨t0, ht0⟩ := lx_tys_in (g := g) (hR.2.2.1 a _ ha).1
  rw [lx_ty5 h5] at ht0
  refine va_aldq X.1 X.2.1 (lx_X_K X) hR.2.1 a t0 (lx_ws_at ha) ht0 (lx_in_ok hi) hd ?_
  rw [lx_rf]
  exact K H locs ls hR hS hl
theorem lx_w_len (X : lx_X g kc m p s mm args meth c) (hd : decode (xB m) pc = .ok (.arraylength, 1)) (hs : lx_len kc pc L st h = some r) (K : lx_C g kc m p l e R s mm args below meth c h0 Q r.1 r.2.1 r.2.2.1 r.2.2.2) : lx_C g kc m p l e R s mm args below meth c h0 Q pc L st h := by
  obtain ⟨a, tl, x, rfl, ha, rfl⟩ := lx_len_inv hs
  intro H locs ls hR hS hl
  show W p l e R s mm args below meth c H locs _ _ Q (F0 mm pc ls (.ref (lx_ad g a) :: tl.map (lx_v g)))
  by_cases hk : a < lx_K
  · rw [lx_at_lt hk] at ha
    rw [lx_ad_lt hk]
    obtain ⟨t0, ht0⟩ := lx_tys_in (g := g) (hR.2.2.1 a _ ha).1
    exact va_alen X.1 X.2.1 (lx_X_K X) hR.2.1 a t0 (lx_ws_at ha) ht0 rfl hd (K H locs ls hR hS hl)
  · rw [lx_at_ge hk] at ha
    rw [lx_ad_ge hk]
    have hO := lx_X_C X ha
    obtain ⟨t, n, y⟩ := x
    match y, hO with
    | .inl f, hO => exact va_tlen X.1 X.2.1 hO hS rfl hd (K H locs ls hR hS hl)
    | .inr (.inl f), hO => exact va_tlen X.1 X.2.1 hO hS rfl hd (K H locs ls hR hS hl)
    | .inr (.inr _), hO => exact hO.elim
/-- behind a store: the heap has another cell at one place, of the same size -/
theorem lx_stored {H H1 : Heap} {locs : List Loc} {ls : Array Slot} {a j pc' : Nat} {e0 e1 : va_E} {tl : List Value} (hR : lx_Rp g h H) (hS : va_S (lx_A g) s.heap H locs) (hl : lv_has ls (xM m) (lx_tl g L)) (ha : h[a]? = some e0) (hes : lx_es e1 = lx_es e0) (he : va_at g.2.1 xC (g.1 + a, lx_e g e1) H1) (hz : H1.size = H.size) (oq : ∀ q : Nat, q ≠ g.1 + a → H1[q]? = H[q]?) (hw : ∀ x, e1 = .inl x → x.1 ∈ xTg ∧ ∀ f, x.2.2 = .inl f → ∀ i, fits (lx_ty x.1) (.int (f i)) = true)
    (K : lx_C g kc m p l e R s mm args below meth c h0 Q pc' L tl (h.set a e1)) : W p l e R s mm args below meth c H1 (locs ++ [⟨g.1 + a, j⟩]) (h.length - h0.1) (lx_hs h - h0.2) Q (F0 mm pc' ls (tl.map (lx_v g))) := by
  refine W.cs (by rw [List.length_set]) (by rw [lx_hs_set ha hes]) (K H1 _ ls (lx_Rp_set hR ha he hz oq (lx_wf_set hR.2.2.1 hw)) (lx_S_put hS hz oq) hl)
end LXH
