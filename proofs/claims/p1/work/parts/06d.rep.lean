/-! THE TIE, first half: what a lite heap says of a real one. g = (first real address of the lite heap, class numbers and slots, array classes by tags, addresses of constants, a static reference that is only carried: lite '.retAddr 0'). -/
abbrev lx_G : Type := Nat × va_G × (Nat → ClassId) × (Nat → Nat) × Option Nat
noncomputable def lx_ad (g : lx_G) (a : Nat) : Nat := if a < lx_K then g.1 + a else g.2.2.2.1 (a - lx_K)
noncomputable def lx_v (g : lx_G) (v : Value) : Value := match v with
  | .ref a => .ref (lx_ad g a)
  | .retAddr _ => va_rf g.2.2.2.2
  | v => v
noncomputable def lx_x (g : lx_G) (x : (Nat → Int32) ⊕ (Nat → Int64) ⊕ (Nat → UInt32) ⊕ (Nat → UInt64) ⊕ (Nat → Option Nat)) : (Nat → Int32) ⊕ (Nat → Int64) ⊕ (Nat → UInt32) ⊕ (Nat → UInt64) ⊕ (Nat → Option Nat) := match x with
  | .inr (.inr (.inr (.inr f))) => .inr (.inr (.inr (.inr (fun i => (f i).map (lx_ad g)))))
  | x => x
noncomputable def lx_e (g : lx_G) (e : va_E) : va_E := match e with
  | .inl a => .inl (g.2.2.1 a.1, a.2.1, lx_x g a.2.2)
  | .inr o => .inr (o.1, o.2.map (lx_v g))
noncomputable def lx_ws (g : lx_G) (h : lx_H) : va_W := h.mapIdx (fun k e => (g.1 + k, lx_e g e))
/-- array types by their tags: those that the heap has -/
noncomputable def lx_ty (t : Nat) : FieldType := match t with
  | 0 => .int
  | 1 => .char
  | 2 => .long
  | 3 => .byte
  | 4 => .boolean
  | t => .object (xOn t)
theorem lx_ty5 {t : Nat} (h : 5 ≤ t) : lx_ty t = .object (xOn t) := by
  match t, h with
  | t + 5, _ => rfl
noncomputable def lx_tys (g : lx_G) : List (ClassId × FieldType) := xTg.map (fun t => (g.2.2.1 t, lx_ty t))
theorem lx_tys_in {g : lx_G} {t : Nat} (h : t ∈ xTg) : ∃ k : Nat, (lx_tys g)[k]? = some (g.2.2.1 t, lx_ty t) := List.getElem?_of_mem (List.mem_map.mpr ⟨t, h, rfl⟩)
/-- what is the machine's to change -/
noncomputable def lx_A (g : lx_G) : Nat → Prop := fun q => g.1 ≤ q
/-- chars and bytes are such -/
noncomputable def lx_wf (h : lx_H) : Prop := ∀ (k : Nat) (a : ClassId × vp_A), h[k]? = some (.inl a) → a.1 ∈ xTg ∧ ∀ f, a.2.2 = .inl f → ∀ i, fits (lx_ty a.1) (.int (f i)) = true
noncomputable def lx_Rp (g : lx_G) (h : lx_H) (H : Heap) : Prop := H.size = g.1 + h.length ∧ va_P g.2.1 xC (lx_ws g h) H ∧ lx_wf h ∧ h.length ≤ lx_K
theorem lx_some {α : Type} {a b : α} (h : some a = some b) : a = b := Option.some.inj h
theorem lx_cat (g : lx_G) (v : Value) : (lx_v g v).category = v.category := by
  cases v with
  | retAddr n => show (va_rf g.2.2.2.2).category = 1; cases g.2.2.2.2 <;> rfl
  | _ => rfl
theorem lx_sum (g : lx_G) (st : List Value) : ((st.map (lx_v g)).map fun v => v.category).sum = (st.map fun v => v.category).sum := by
  rw [List.map_map]
  congr 1
  apply List.map_congr_left
  intro v _
  exact lx_cat g v
theorem lx_ws_get (g : lx_G) (h : lx_H) (k : Nat) : (lx_ws g h)[k]? = (h[k]?).map (fun e => (g.1 + k, lx_e g e)) := by
  unfold lx_ws
  rw [List.getElem?_mapIdx]
theorem lx_ws_at {g : lx_G} {h : lx_H} {k : Nat} {e : va_E} (he : h[k]? = some e) : (lx_ws g h)[k]? = some (g.1 + k, lx_e g e) := by
  rw [lx_ws_get, he]; rfl
theorem lx_ws_D (g : lx_G) (h : lx_H) : va_D (lx_A g) (lx_ws g h) := by
  refine ⟨fun i j p q hi hj hpq => ?_, fun k q hk => ?_⟩
  · rw [lx_ws_get] at hi hj
    obtain ⟨a, -, rfl⟩ := Option.map_eq_some_iff.mp hi
    obtain ⟨b, -, rfl⟩ := Option.map_eq_some_iff.mp hj
    have : g.1 + i = g.1 + j := hpq
    omega
  · rw [lx_ws_get] at hk
    obtain ⟨a, -, rfl⟩ := Option.map_eq_some_iff.mp hk
    exact Nat.le_add_right _ _
theorem lx_ad_lt {g : lx_G} {a : Nat} (h : a < lx_K) : lx_ad g a = g.1 + a := if_pos h
theorem lx_Rp_at {g : lx_G} {h : lx_H} {H : Heap} {k : Nat} {e : va_E} (hR : lx_Rp g h H) (he : h[k]? = some e) : va_at g.2.1 xC (g.1 + k, lx_e g e) H := hR.2.1 k _ (lx_ws_at he)
theorem lx_Rp_set {g : lx_G} {h : lx_H} {H H1 : Heap} {k : Nat} {e0 e : va_E} (hR : lx_Rp g h H) (h0 : h[k]? = some e0) (he : va_at g.2.1 xC (g.1 + k, lx_e g e) H1) (hz : H1.size = H.size) (oq : ∀ q : Nat, q ≠ g.1 + k → H1[q]? = H[q]?) (hw : lx_wf (h.set k e)) : lx_Rp g (h.set k e) H1 := by
  have hk : k < h.length := (List.getElem?_eq_some_iff.mp h0).1
  refine ⟨by rw [hz, hR.1, List.length_set], fun j q hq => ?_, hw, by rw [List.length_set]; exact hR.2.2.2⟩
  rw [lx_ws_get] at hq
  by_cases hj : j = k
  · subst hj
    rw [List.getElem?_set_self hk] at hq
    cases hq
    exact he
  · rw [List.getElem?_set_ne (Ne.symm hj)] at hq
    obtain ⟨e1, h1, rfl⟩ := Option.map_eq_some_iff.mp hq
    exact (lx_Rp_at hR h1).kept (oq _ (by show g.1 + j ≠ g.1 + k; omega))
theorem lx_Rp_push {g : lx_G} {h : lx_H} {H H1 : Heap} {e : va_E} (hR : lx_Rp g h H) (he : va_at g.2.1 xC (g.1 + h.length, lx_e g e) H1) (hz : H1.size = H.size + 1) (oq : ∀ q : Nat, q < H.size → H1[q]? = H[q]?) (hw : lx_wf (h ++ [e])) (hK : h.length < lx_K) : lx_Rp g (h ++ [e]) H1 := by
  refine ⟨by rw [hz, hR.1, List.length_append]; rfl, fun j q hq => ?_, hw, by rw [List.length_append]; exact hK⟩
  rw [lx_ws_get] at hq
  by_cases hj : j < h.length
  · rw [List.getElem?_append_left hj] at hq
    obtain ⟨e1, h1, rfl⟩ := Option.map_eq_some_iff.mp hq
    exact (lx_Rp_at hR h1).kept (oq _ (by show g.1 + j < H.size; rw [hR.1]; omega))
  · rw [List.getElem?_append_right (by omega)] at hq
    obtain ⟨e1, h1, rfl⟩ := Option.map_eq_some_iff.mp hq
    have hz2 : j - h.length < 1 := (List.getElem?_eq_some_iff.mp h1).1
    have hj2 : j = h.length := by omega
    subst hj2
    rw [Nat.sub_self] at h1
    cases h1
    exact he
theorem lx_S_put {g : lx_G} {H0 H H1 : Heap} {locs : List Loc} {k j : Nat} (hS : va_S (lx_A g) H0 H locs) (hz : H1.size = H.size) (oq : ∀ q : Nat, q ≠ g.1 + k → H1[q]? = H[q]?) : va_S (lx_A g) H0 H1 (locs ++ [⟨g.1 + k, j⟩]) := va_S.put hS hz oq (Nat.le_add_right _ _)
theorem lx_S_push {g : lx_G} {H0 H H1 : Heap} {locs : List Loc} (hS : va_S (lx_A g) H0 H locs) (hz : H1.size = H.size + 1) (oq : ∀ q : Nat, q < H.size → H1[q]? = H[q]?) : va_S (lx_A g) H0 H1 locs :=
  ⟨Nat.le_trans hS.1 (by omega), fun x h1 h2 => (oq x (Nat.lt_of_lt_of_le h1 hS.1)).trans (hS.2.1 x h1 h2), hS.2.2⟩
/-- locals -/
noncomputable def lx_tl (g : lx_G) (L : lx_L) : lx_L := L.map (fun q => (q.1, lx_v g q.2))
theorem lx_lg_mem {L : lx_L} {i : Nat} {v : Value} (h : lx_lg L i = some v) : (i, v) ∈ L := by
  induction L with
  | nil => cases h
  | cons q L ih =>
    unfold lx_lg at h
    split at h
    · next hq => cases h; rw [← hq]; exact List.mem_cons_self
    · exact List.mem_cons_of_mem _ (ih h)
theorem lx_tl_get {g : lx_G} {L : lx_L} {ls : Array Slot} {nL i : Nat} {v : Value} (hl : lv_has ls nL (lx_tl g L)) (h : lx_lg L i = some v) : ls[i]? = some (.val (lx_v g v)) :=
  hl.2.2 (i, lx_v g v) (List.mem_map.mpr ⟨(i, v), lx_lg_mem h, rfl⟩)
theorem lx_tl_s1 (g : lx_G) (L : lx_L) (i : Nat) (v : Value) : (i, lx_v g v) :: (lx_tl g L).filter (fun q => !(q.1 == i) && !(q.1 + 1 == i && q.2.category == 2)) = lx_tl g (lx_s1 L i v) := by
  unfold lx_tl lx_s1
  rw [List.map_cons, List.filter_map]
  congr 2
  apply List.filter_congr
  intro q _
  simp only [Function.comp, lx_cat]
theorem lx_tl_s2 (g : lx_G) (L : lx_L) (i : Nat) (v : Value) : (i, lx_v g v) :: (lx_tl g L).filter (fun q => !(q.1 == i) && (!(q.1 == i + 1) && !(q.1 + 1 == i && q.2.category == 2))) = lx_tl g (lx_s2 L i v) := by
  unfold lx_tl lx_s2
  rw [List.map_cons, List.filter_map]
  congr 2
  apply List.filter_congr
  intro q _
  simp only [Function.comp, lx_cat]
theorem lx_in_ok {i : Int32} {n : Nat} (h : lx_in i n = true) : vp_in i n := by
  unfold lx_in at h
  simp only [Bool.and_eq_true, Bool.not_eq_true', decide_eq_false_iff_not, decide_eq_true_eq] at h
  rintro (q | q)
  · exact h.1 q
  · omega
theorem lx_args (g : lx_G) (vs : List Value) : ∀ i, lv_args i (vs.map (lx_v g)) = lx_tl g (lv_args i vs) := by
  induction vs with
  | nil => intro i; rfl
  | cons v vs ih => intro i; simp only [List.map_cons, lv_args, lx_cat, ih]; rfl
theorem lx_words (g : lx_G) (vs : List Value) : (lg_sl (vs.map (lx_v g))).length = (lg_sl vs).length := by
  induction vs with
  | nil => rfl
  | cons v vs ih =>
    unfold lg_sl at ih ⊢
    rw [List.map_cons, List.flatMap_cons, List.flatMap_cons, List.length_append, List.length_append, ih, lx_cat]
    split <;> rfl
theorem lx_wf_set {h : lx_H} {k : Nat} {e : va_E} (hw : lx_wf h) (he : ∀ a, e = .inl a → a.1 ∈ xTg ∧ ∀ f, a.2.2 = .inl f → ∀ i, fits (lx_ty a.1) (.int (f i)) = true) : lx_wf (h.set k e) := by
  intro j a hj
  by_cases hjk : j = k
  · subst hjk
    have hl : j < h.length := by
      have := (List.getElem?_eq_some_iff.mp hj).1
      rwa [List.length_set] at this
    rw [List.getElem?_set_self hl] at hj
    exact he a (lx_some hj)
  · rw [List.getElem?_set_ne (Ne.symm hjk)] at hj
    exact hw j a hj
theorem lx_wf_push {h : lx_H} {e : va_E} (hw : lx_wf h) (he : ∀ a, e = .inl a → a.1 ∈ xTg ∧ ∀ f, a.2.2 = .inl f → ∀ i, fits (lx_ty a.1) (.int (f i)) = true) : lx_wf (h ++ [e]) := by
  intro j a hj
  by_cases hl : j < h.length
  · rw [List.getElem?_append_left hl] at hj
    exact hw j a hj
  · rw [List.getElem?_append_right (by omega)] at hj
    have hz : j - h.length < 1 := (List.getElem?_eq_some_iff.mp hj).1
    rw [show j - h.length = 0 by omega] at hj
    exact he a (lx_some hj)
theorem lx_hs_set : ∀ {h : lx_H} {k : Nat} {e0 e : va_E}, h[k]? = some e0 → lx_es e = lx_es e0 → lx_hs (h.set k e) = lx_hs h
  | [], k, e0, e, h0, _ => by simp at h0
  | a :: h, 0, e0, e, h0, he => by
    rw [List.getElem?_cons_zero] at h0
    cases h0
    show lx_es e + lx_hs h = lx_es a + lx_hs h
    rw [he]
  | a :: h, k + 1, e0, e, h0, he => by
    rw [List.getElem?_cons_succ] at h0
    show lx_es a + lx_hs (h.set k e) = lx_es a + lx_hs h
    rw [lx_hs_set h0 he]
theorem lx_hs_push : ∀ (h : lx_H) (e : va_E), lx_hs (h ++ [e]) = lx_hs h + lx_es e
  | [], e => by show lx_es e + 0 = 0 + lx_es e; omega
  | a :: h, e => by
    show lx_es a + lx_hs (h ++ [e]) = lx_es a + lx_hs h + lx_es e
    rw [lx_hs_push h e]; omega
theorem lx_sl_i (cA : ClassId) (n k : Nat) (f : Nat → Int32) (x : Int32) : (vp_cell cA (n, .inl f)).setSlot k (.int x) = vp_cell cA (n, .inl (upd f k x)) := by
  rw [vp_cell_i, vp_cell_i, arrV_store]
  congr 1
  funext q
  by_cases hq : q = k
  · simp [updV, upd, hq]
  · simp [updV, upd, hq]
theorem lx_sl_l (cA : ClassId) (n k : Nat) (f : Nat → Int64) (x : Int64) : (vp_cell cA (n, .inr (.inl f))).setSlot k (.long x) = vp_cell cA (n, .inr (.inl (vp_updL f k x))) := by
  rw [vp_cell_l, vp_cell_l, arrV_store]
  congr 1
  funext q
  by_cases hq : q = k
  · simp [updV, vp_updL, hq]
  · simp [updV, vp_updL, hq]
theorem lx_fit_char (x : Int32) : fits .char (.int (vp_nar .char x)) = true := by
  have e : vp_nar .char x = (x.toUInt32 % 65536).toInt32 := by
    rw [vp_nar_char]
    first | rw [UInt32.toUInt32_toUInt16] | simp
    try rfl
  rw [e]
  exact pk_fc x
theorem lx_fit_byte (x : Int32) : fits .byte (.int (vp_nar .byte x)) = true := by
  rw [vp_nar_byte]
  exact pk_fb x
theorem lx_fit_bool (x : Int32) : fits .boolean (.int (vp_nar .boolean x)) = true := by
  show fits .boolean (.int (x &&& 1)) = true
  obtain ⟨j, hj, e⟩ := pk_andE x (m := 1) 1 (by decide)
  rw [e]
  rcases (by omega : j = 0 ∨ j = 1) with rfl | rfl <;> decide
