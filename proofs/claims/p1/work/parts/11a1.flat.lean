/-! THE FLAT LAYER: all cells are made by the constructors, at fixed places; a memory is a function of place and index, values are Ints. wp: the lite machine runs to its end and Q holds of answer and memory. Rows: one an instruction. -/
abbrev fx_V : Type := Int ⊕ Int ⊕ Option Nat
abbrev fx_M : Type := Nat → Int → Int
abbrev jI (i : Int) : fx_V := .inl i
abbrev jL (i : Int) : fx_V := .inr (.inl i)
abbrev jR (a : Nat) : fx_V := .inr (.inr (some a))
abbrev jN : fx_V := .inr (.inr none)
def fx_tv : fx_V → Value
  | .inl i => .int (Int32.ofInt i)
  | .inr (.inl i) => .long (Int64.ofInt i)
  | .inr (.inr (some a)) => .ref a
  | .inr (.inr none) => .null
def fx_up (M : fx_M) (a : Nat) (k v : Int) : fx_M := fun b j => if b = a ∧ j = k then v else M b j
abbrev fx_S : Type := (Nat × Nat) ⊕ (Nat × List Nat)
/- kinds of fields: 0 int or boolean, 1 long, 2 a reference that changes, c + 3 always the reference c -/
def fx_fv (k : Nat) (v : Int) : Value := match k with
  | 0 => .int (Int32.ofInt v)
  | 1 => .long (Int64.ofInt v)
  | 2 => .ref v.toNat
  | c + 3 => .ref c
def fx_fs : List Nat → (Int → Int) → Nat → List Value
  | [], _, _ => []
  | k :: ks, g, j => fx_fv k (g j) :: fx_fs ks g (j + 1)
theorem fx_fs_len : ∀ (ks : List Nat) (g : Int → Int) (j : Nat), (fx_fs ks g j).length = ks.length
  | [], _, _ => rfl
  | k :: ks, g, j => by simp [fx_fs, fx_fs_len ks g (j + 1)]
theorem fx_fs_get : ∀ {ks : List Nat} {g : Int → Int} {j i k : Nat}, ks[i]? = some k → (fx_fs ks g j)[i]? = some (fx_fv k (g ((j + i : Nat) : Int)))
  | [], _, _, _, _, h => by simp at h
  | k0 :: ks, g, j, 0, k, h => by
    simp at h
    subst h
    simp [fx_fs]
  | k0 :: ks, g, j, i + 1, k, h => by
    have := fx_fs_get (g := g) (j := j + 1) (i := i) (ks := ks) (k := k) (by simpa using h)
    simp only [fx_fs, List.getElem?_cons_succ]
    rw [this]
    congr 3
    omega
theorem fx_fs_same : ∀ {ks : List Nat} {g g' : Int → Int} {j : Nat}, (∀ z : Nat, j ≤ z → g' z = g z) → fx_fs ks g j = fx_fs ks g' j
  | [], _, _, _, _ => rfl
  | k :: ks, g, g', j, h => by
    simp only [fx_fs]
    rw [h j (Nat.le_refl _), fx_fs_same (g := g) (g' := g') (fun z hz => h z (by omega))]
theorem fx_fs_set : ∀ {ks : List Nat} {g : Int → Int} {j i k : Nat} {v : Int}, ks[i]? = some k → (fx_fs ks g j).set i (fx_fv k v) = fx_fs ks (fun z => if z = ((j + i : Nat) : Int) then v else g z) j
  | [], _, _, _, _, _, h => by simp at h
  | k0 :: ks, g, j, 0, k, v, h => by
    simp at h
    subst h
    simp only [fx_fs, List.set_cons_zero, Nat.add_zero, if_true]
    congr 1
    exact fx_fs_same (fun z hz => by rw [if_neg]; omega)
  | k0 :: ks, g, j, i + 1, k, v, h => by
    have := fx_fs_set (g := g) (j := j + 1) (i := i) (ks := ks) (k := k) (v := v) (by simpa using h)
    simp only [fx_fs, List.set_cons_succ]
    rw [this, if_neg (by omega)]
    congr 2
    funext z
    have : (j + 1 + i : Nat) = j + (i + 1) := by omega
    rw [this]
def fx_pz (g : Int → Int) (k : Nat) : Option Nat := if k < 6 then some (71 + 9 * k) else if g k < 0 then none else some (g k).toNat
def fx_ar (t : Nat) (g : Int → Int) : (Nat → Int32) ⊕ (Nat → Int64) ⊕ (Nat → UInt32) ⊕ (Nat → UInt64) ⊕ (Nat → Option Nat) :=
  if t = 2 then .inr (.inl fun k => Int64.ofInt (g k)) else if t = 5 then .inr (.inr (.inr (.inr (fx_pz g)))) else .inl fun k => Int32.ofInt (g k)
def fx_cell (s : fx_S) (g : Int → Int) : va_E := match s with
  | .inl (t, n) => .inl (t, n, fx_ar t g)
  | .inr (c, ks) => .inr (c, fx_fs ks g 0)
def fx_mk : List fx_S → fx_M → Nat → lx_H
  | [], _, _ => []
  | s :: l, M, a => fx_cell s (M a) :: fx_mk l M (a + 1)
theorem fx_mk_get : ∀ {l : List fx_S} {M : fx_M} {a i : Nat} {s : fx_S}, l[i]? = some s → (fx_mk l M a)[i]? = some (fx_cell s (M (a + i)))
  | [], _, _, _, _, h => by simp at h
  | s0 :: l, M, a, 0, s, h => by
    simp at h
    subst h
    simp [fx_mk]
  | s0 :: l, M, a, i + 1, s, h => by
    have := fx_mk_get (M := M) (a := a + 1) (i := i) (l := l) (s := s) (by simpa using h)
    simp only [fx_mk, List.getElem?_cons_succ]
    rw [this]
    have e : a + 1 + i = a + (i + 1) := by omega
    rw [e]
theorem fx_mk_same : ∀ {l : List fx_S} {M M' : fx_M} {a : Nat}, (∀ z : Nat, a ≤ z → M' z = M z) → fx_mk l M a = fx_mk l M' a
  | [], _, _, _, _ => rfl
  | s :: l, M, M', a, h => by
    simp only [fx_mk]
    rw [h a (Nat.le_refl _), fx_mk_same (M := M) (M' := M') (fun z hz => h z (by omega))]
theorem fx_mk_set : ∀ {l : List fx_S} {M : fx_M} {a i : Nat} {s : fx_S} {g : Int → Int}, l[i]? = some s → (fx_mk l M a).set i (fx_cell s g) = fx_mk l (fun b => if b = a + i then g else M b) a
  | [], _, _, _, _, _, h => by simp at h
  | s0 :: l, M, a, 0, s, g, h => by
    simp at h
    subst h
    simp only [fx_mk, List.set_cons_zero, Nat.add_zero, if_true]
    congr 1
    exact fx_mk_same (fun z hz => by
      rw [if_neg]
      omega)
  | s0 :: l, M, a, i + 1, s, g, h => by
    have := fx_mk_set (M := M) (a := a + 1) (i := i) (l := l) (s := s) (g := g) (by simpa using h)
    simp only [fx_mk, List.set_cons_succ]
    rw [this, if_neg (by omega)]
    congr 1
    have e : a + 1 + i = a + (i + 1) := by omega
    rw [e]
noncomputable def fx_hp (M : fx_M) : lx_H := fx_mk xLay M 0
theorem fx_hp_at {M : fx_M} {a : Nat} {s : fx_S} (h : xLay[a]? = some s) : (fx_hp M)[a]? = some (fx_cell s (M a)) := by
  have := fx_mk_get (M := M) (a := 0) h
  rwa [Nat.zero_add] at this
theorem fx_hp_set {M : fx_M} {a : Nat} {s : fx_S} {g : Int → Int} (h : xLay[a]? = some s) : (fx_hp M).set a (fx_cell s g) = fx_hp (fun b => if b = a then g else M b) := by
  have := fx_mk_set (M := M) (a := 0) (g := g) h
  simp only [Nat.zero_add] at this
  exact this
theorem xLay_lt {a : Nat} {s : fx_S} (h : xLay[a]? = some s) : a < lx_K := by
  have h1 := (List.getElem?_eq_some_iff.mp h).1
  have h2 : xLay.length < lx_K := by decide +kernel
  omega
theorem fx_at {kc : List va_E} {M : fx_M} {a : Nat} {s : fx_S} (h : xLay[a]? = some s) : lx_at kc (fx_hp M) a = some (fx_cell s (M a)) := by
  rw [lx_at_lt (xLay_lt h)]
  exact fx_hp_at h
/-- field k of the object at a: its class, its kind -/
noncomputable def fx_k (a k : Nat) : Option (Nat × Nat) := match xLay[a]? with
  | some (.inr (c, ks)) => (ks[k]?).map fun z => (c, z)
  | _ => none
theorem fx_k_inv {a k c z : Nat} (h : fx_k a k = some (c, z)) : ∃ ks, xLay[a]? = some (.inr (c, ks)) ∧ ks[k]? = some z := by
  unfold fx_k at h
  split at h
  · next c' ks hx =>
    cases hk : ks[k]? with
    | none => rw [hk] at h; cases h
    | some w =>
      rw [hk] at h
      cases h
      exact ⟨ks, hx, hk⟩
  · cases h
noncomputable def fx_a (a : Nat) : Option (Nat × Nat) := match xLay[a]? with
  | some (.inl q) => some q
  | _ => none
theorem fx_a_inv {a t n : Nat} (h : fx_a a = some (t, n)) : xLay[a]? = some (.inl (t, n)) := by
  unfold fx_a at h
  split at h
  · next q hx => cases h; exact hx
  · cases h
noncomputable def fx_cls (a : Nat) : Option Nat := match xLay[a]? with
  | some (.inr q) => some q.1
  | _ => none
theorem fx_cls_inv {a c : Nat} (h : fx_cls a = some c) : ∃ ks, xLay[a]? = some (.inr (c, ks)) := by
  unfold fx_cls at h
  split at h
  · next q hx => cases h; exact ⟨q.2, hx⟩
  · cases h
/-! locals -/
abbrev fx_L : Type := List (Option fx_V)
def fx_lo (l : fx_L) (L : lx_L) : Prop := ∀ (i : Nat) (v : fx_V), l[i]? = some (some v) → lx_lg L i = some (fx_tv v)
def fx_ty : fx_V → Nat
  | .inl _ => 0
  | .inr (.inl _) => 1
  | .inr (.inr _) => 2
def fx_c2 : Option (Option fx_V) → Bool
  | some (some (.inr (.inl _))) => true
  | _ => false
def fx_cl (l : fx_L) (i : Nat) : fx_L := match i with
  | 0 => l
  | j + 1 => if fx_c2 l[j]? = true then l.set j none else l
def fx_se (l : fx_L) (i : Nat) (v : fx_V) : fx_L := match v with
  | .inr (.inl x) => ((fx_cl l i).set i (some (.inr (.inl x)))).set (i + 1) none
  | v => (fx_cl l i).set i (some v)
theorem fx_cl_get {l : fx_L} {i j : Nat} {u : fx_V} (h : (fx_cl l i)[j]? = some (some u)) : l[j]? = some (some u) ∧ ¬ (j + 1 = i ∧ (fx_tv u).category = 2) := by
  unfold fx_cl at h
  split at h
  · exact ⟨h, by omega⟩
  · next j' =>
    split at h
    · next hc =>
      by_cases e : j' = j
      · subst e
        rw [List.getElem?_set_self'] at h
        cases hx : l[j']? with
        | none => rw [hx] at h; cases h
        | some w => rw [hx] at h; cases h
      · rw [List.getElem?_set_ne e] at h
        exact ⟨h, by omega⟩
    · next hc =>
      refine ⟨h, fun ⟨e, hu⟩ => hc ?_⟩
      have e : j' = j := by omega
      subst e
      rw [h]
      match u, hu with
      | .inr (.inl x), _ => rfl
      | .inl x, hu => exact absurd (show (1 : Nat) = 2 from hu) (by decide)
      | .inr (.inr (some x)), hu => exact absurd (show (1 : Nat) = 2 from hu) (by decide)
      | .inr (.inr none), hu => exact absurd (show (1 : Nat) = 2 from hu) (by decide)
theorem lx_lg_filter {p : Nat × Value → Bool} {j : Nat} {w : Value} (hp : p (j, w) = true) : ∀ {L : lx_L}, lx_lg L j = some w → lx_lg (L.filter p) j = some w
  | [], h => h
  | q :: L, h => by
    unfold lx_lg at h
    split at h
    · next e =>
      cases h
      have : p q = true := by
        have : q = (j, q.2) := by rw [← e]
        rw [this]
        exact hp
      rw [List.filter_cons_of_pos this]
      unfold lx_lg
      rw [if_pos e]
    · next e =>
      have ih := lx_lg_filter (p := p) hp (L := L) h
      by_cases hq : p q = true
      · rw [List.filter_cons_of_pos hq]
        unfold lx_lg
        rw [if_neg e]
        exact ih
      · rw [List.filter_cons_of_neg hq]
        exact ih
theorem fx_lo_s1 {l : fx_L} {L : lx_L} {i : Nat} {v : fx_V} (h : fx_lo l L) (hv : (fx_tv v).category ≠ 2) : fx_lo (fx_se l i v) (lx_s1 L i (fx_tv v)) := by
  have hse : fx_se l i v = (fx_cl l i).set i (some v) := by
    match v, hv with
    | .inr (.inl x), hv => exact absurd rfl hv
    | .inl x, _ => rfl
    | .inr (.inr x), _ => rfl
  intro j u hj
  rw [hse] at hj
  by_cases e : i = j
  · subst e
    rw [List.getElem?_set_self'] at hj
    cases hx : (fx_cl l i)[i]? with
    | none => rw [hx] at hj; cases hj
    | some w =>
      rw [hx] at hj
      cases hj
      unfold lx_s1 lx_lg
      rw [if_pos rfl]
  · rw [List.getElem?_set_ne e] at hj
    obtain ⟨h1, h2⟩ := fx_cl_get hj
    unfold lx_s1 lx_lg
    rw [if_neg e]
    refine lx_lg_filter ?_ (h j u h1)
    have : ¬ j = i := fun h => e h.symm
    simp only [Bool.and_eq_true, Bool.not_eq_true', beq_eq_false_iff_ne, Bool.and_eq_false_imp, beq_iff_eq]
    exact ⟨this, fun a b => h2 ⟨a, b⟩⟩
theorem fx_lo_s2 {l : fx_L} {L : lx_L} {i : Nat} {x : Int} (h : fx_lo l L) : fx_lo (fx_se l i (jL x)) (lx_s2 L i (.long (Int64.ofInt x))) := by
  intro j u hj
  have hj : (((fx_cl l i).set i (some (jL x))).set (i + 1) none)[j]? = some (some u) := hj
  by_cases e1 : i + 1 = j
  · subst e1
    rw [List.getElem?_set_self'] at hj
    cases hx : ((fx_cl l i).set i (some (jL x)))[i + 1]? with
    | none => rw [hx] at hj; cases hj
    | some w => rw [hx] at hj; cases hj
  rw [List.getElem?_set_ne e1] at hj
  by_cases e : i = j
  · subst e
    rw [List.getElem?_set_self'] at hj
    cases hx : (fx_cl l i)[i]? with
    | none => rw [hx] at hj; cases hj
    | some w =>
      rw [hx] at hj
      cases hj
      unfold lx_s2 lx_lg
      rw [if_pos rfl]
      rfl
  · rw [List.getElem?_set_ne e] at hj
    obtain ⟨h1, h2⟩ := fx_cl_get hj
    unfold lx_s2 lx_lg
    rw [if_neg e]
    refine lx_lg_filter ?_ (h j u h1)
    have : ¬ j = i := fun h => e h.symm
    have h3 : ¬ j = i + 1 := fun h => e1 h.symm
    simp only [Bool.and_eq_true, Bool.not_eq_true', beq_eq_false_iff_ne, Bool.and_eq_false_imp, beq_iff_eq]
    exact ⟨this, h3, fun a b => h2 ⟨a, b⟩⟩
/-- what l' knows, l knows -/
def fx_sub : fx_L → fx_L → Prop
  | [], _ => True
  | none :: l', l => fx_sub l' l.tail
  | some v :: l', l => l.head? = some (some v) ∧ fx_sub l' l.tail
theorem fx_sub_get : ∀ {l' l : fx_L}, fx_sub l' l → ∀ {i : Nat} {v : fx_V}, l'[i]? = some (some v) → l[i]? = some (some v)
  | [], _, _, _, _, h => by simp at h
  | none :: l', l, hs, 0, v, h => by simp at h
  | none :: l', l, hs, i + 1, v, h => by
    have := fx_sub_get (l' := l') (l := l.tail) hs (i := i) (v := v) (by simpa using h)
    simpa using this
  | some w :: l', l, hs, 0, v, h => by
    have : w = v := by simpa using h
    subst this
    rw [← List.head?_eq_getElem?]
    exact hs.1
  | some w :: l', l, hs, i + 1, v, h => by
    have := fx_sub_get (l' := l') (l := l.tail) hs.2 (i := i) (v := v) (by simpa using h)
    simpa using this
/-! runs to the end -/
def wp (kc : List va_E) (d m pc : Nat) (l : fx_L) (st : List fx_V) (M : fx_M) (Q : Option fx_V → fx_M → Prop) : Prop :=
  ∃ (v : Option fx_V) (M' : fx_M), Q v M' ∧ ∀ L, fx_lo l L → lx_ev kc d m pc L (st.map fx_tv) (fx_hp M) (v.map fx_tv, fx_hp M')
theorem wp_mono {kc : List va_E} {d d' m pc : Nat} {l : fx_L} {st : List fx_V} {M : fx_M} {Q Q' : Option fx_V → fx_M → Prop} (hd : d' ≤ d) (hQ : ∀ v M', Q v M' → Q' v M') (K : wp kc d' m pc l st M Q) : wp kc d m pc l st M Q' := by
  obtain ⟨v, M', hq, hK⟩ := K
  exact ⟨v, M', hQ _ _ hq, fun L hL => ev_mono (lx_kle_rf kc) hd (hK L hL)⟩
theorem wp_wk {kc : List va_E} {d m pc : Nat} {l l' : fx_L} {st : List fx_V} {M : fx_M} {Q : Option fx_V → fx_M → Prop} (hs : fx_sub l' l) (K : wp kc d m pc l' st M Q) : wp kc d m pc l st M Q := by
  obtain ⟨v, M', hq, hK⟩ := K
  exact ⟨v, M', hq, fun L hL => hK L fun i v hi => hL i v (fx_sub_get hs hi)⟩
