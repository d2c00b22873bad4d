/-! FORMS: two forms are the same; the least text. -/
theorem cmp_eq {a b : Int} : fx_cmp a b = 0 ↔ a = b := by
  unfold fx_cmp
  by_cases h1 : b < a
  · rw [if_pos h1]
    exact ⟨fun h => by omega, fun h => by omega⟩
  · rw [if_neg h1]
    by_cases h2 : a = b
    · rw [if_pos h2]
      exact ⟨fun _ => h2, fun _ => rfl⟩
    · rw [if_neg h2]
      exact ⟨fun h => by omega, fun h => absurd h h2⟩
/-- a puzzle as a form holds it -/
def fOk (Y : PZ) : Prop := pz_ok Y ∧ ∀ x ∈ Y.2.2.2.1, vR x
theorem hdT_e {Y : PZ} (ho : pz_ok Y) (X : List Int) : hdT Y ++ X = 110 :: 101 :: 119 :: 32 :: (48 + Y.1) :: 32 :: (48 + Y.2.1) :: 32 :: (48 + Y.2.2.1) :: X := by
  unfold hdT
  rw [dgs_1 (s := Y.1) ⟨by have := ho.1; omega, by have := ho.2.1; omega⟩, dgs_1 (s := Y.2.1) ⟨by have := ho.2.2.1; omega, by have := ho.2.2.2.1; omega⟩, dgs_1 (s := Y.2.2.1) ⟨by have := ho.2.2.2.2.1; omega, by have := ho.2.2.2.2.2.1; omega⟩]
  rfl
theorem tText_h {Y : PZ} (ho : pz_ok Y) : tText Y = hdT Y ++ (Y.2.2.2.1.flatMap tRule ++ gtx 0 Y.2.2.2.2) := by
  unfold hdT
  rw [tText_e, gtx_range ho]
  simp only [List.append_assoc, List.cons_append]
theorem gv9_of {Y : PZ} (ho : pz_ok Y) : gv9 Y.2.2.2.2 := fun y hy => by
  have h1 := ho.2.2.2.2.2.2.2.2.2.1 y hy
  have h2 := ho.2.2.2.2.2.1
  omega
theorem tText_inj {Y X : PZ} (hY : fOk Y) (hX : fOk X) (h : tText Y = tText X) : Y = X := by
  obtain ⟨oY, vY⟩ := hY
  obtain ⟨oX, vX⟩ := hX
  rw [tText_h oY, tText_h oX, hdT_e oY, hdT_e oX] at h
  simp only [List.cons.injEq, true_and] at h
  obtain ⟨e1, e2, e3, e4⟩ := h
  have lY := oY.2.2.2.2.2.2.2.2.1
  have lX := oX.2.2.2.2.2.2.2.2.1
  have gY : gsm (gtx 0 Y.2.2.2.2) := gtx_gsm (by omega)
  have gX : gsm (gtx 0 X.2.2.2.2) := gtx_gsm (by omega)
  have hl := congrArg List.length e4
  have er : Y.2.2.2.1 = X.2.2.2.1 := by
    rcases (by omega : cmpL Y.2.2.2.1 X.2.2.2.1 = 0 ∨ cmpL Y.2.2.2.1 X.2.2.2.1 < 0 ∨ 0 < cmpL Y.2.2.2.1 X.2.2.2.1) with c | c | c
    · exact cmpL_0 vY vX c
    · exact absurd e4 (ltW_ne (cmpL_lt vY vX gY gX hl c)).2
    · exact absurd e4.symm (ltW_ne (cmpL_lt vX vY gX gY hl.symm (cmpL_gt c))).2
  rw [er] at e4 hl
  have e5 := List.append_cancel_left e4
  have eg : Y.2.2.2.2 = X.2.2.2.2 := by
    rcases (by omega : gP 9 Y.2.2.2.2 = gP 9 X.2.2.2.2 ∨ gP 9 Y.2.2.2.2 < gP 9 X.2.2.2.2 ∨ gP 9 X.2.2.2.2 < gP 9 Y.2.2.2.2) with c | c | c
    · exact gP_inj (gv9_of oY) (gv9_of oX) lY lX c
    · exact absurd e5 (ltW_ne (gP_lt (gv9_of oY) (gv9_of oX) lY lX (by omega) (by rw [e5]) c)).2
    · exact absurd e5.symm (ltW_ne (gP_lt (gv9_of oX) (gv9_of oY) lX lY (by omega) (by rw [e5]) c)).2
  exact Prod.ext (by omega) (Prod.ext (by omega) (Prod.ext (by omega) (Prod.ext er eg)))
/-- the least of all variants -/
def isMin (Z Y : PZ) : Prop := (∃ (m : Int) (i : Nat), 0 ≤ m ∧ m < mps Z.1 Z.2.1 ∧ i < rgs Z ∧ Y = nvZ Z m i) ∧ ∀ (m : Int) (i : Nat), 0 ≤ m → m < mps Z.1 Z.2.1 → i < rgs Z → ltW (tW Z m i) (tText Y) = false
theorem isMin_ok {Z Y : PZ} (ho : pz_ok Z) (hn : pnZ Z) (h : isMin Z Y) : fOk Y := by
  have hrb := rgs_b ho
  obtain ⟨⟨m, i, m0, m1, i1, e⟩, _⟩ := h
  rw [e]
  exact ⟨nvZ_ok ho ⟨m0, m1⟩ (by omega), nrL_v ho hn ⟨m0, m1⟩⟩
theorem isMin_1 {Z Y X : PZ} (ho : pz_ok Z) (hn : pnZ Z) (h : isMin Z Y) (g : isMin Z X) : tText Y = tText X := by
  have hrb := rgs_b ho
  obtain ⟨⟨m, i, m0, m1, i1, e⟩, k⟩ := h
  obtain ⟨⟨m', i', m0', m1', i1', e'⟩, k'⟩ := g
  have l1 := nv_len ho hn ⟨m0, m1⟩ (k := i) (by omega)
  have l2 := nv_len ho hn ⟨m0', m1'⟩ (k := i') (by omega)
  have a1 := k m' i' m0' m1' i1'
  have a2 := k' m i m0 m1 i1
  rw [e] at a1 ⊢
  rw [e'] at a2 ⊢
  unfold tW at a1 a2
  rcases ltW_tri (l1.trans l2.symm) with x | x | x
  · rw [x] at a2
    cases a2
  · rw [x] at a1
    cases a1
  · exact x
theorem fm_min {Z : PZ} {T : List PR} {G : Int} (h : fmN Z (mps Z.1 Z.2.1) T G) : ∃ Y, isMin Z Y ∧ T = Y.2.2.2.1 ∧ G = gP 9 Y.2.2.2.2 ∧ Y.1 = Z.1 ∧ Y.2.1 = Z.2.1 ∧ Y.2.2.1 = Z.2.2.1 := by
  obtain ⟨m, i, m0, m1, i1, e1, e2, k⟩ := h
  exact ⟨nvZ Z m i, ⟨⟨m, i, m0, m1, i1, rfl⟩, k⟩, e1, e2, rfl, rfl, rfl⟩
section SAM
variable {kc : List va_E} {d : Nat} {Q : Option fx_V → fx_M → Prop} {M : fx_M}
theorem sp_same {f g : Nat} {Y X : PZ} (Hf : fx_frm f) (Hg : fx_frm g) (hY : fOk Y) (hX : fOk X) (cY : cfm M f Y Y.2.2.2.1 (gP 9 Y.2.2.2.2)) (cX : cfm M g X X.2.2.2.1 (gP 9 X.2.2.2.2)) (K1 : tText Y = tText X → Q (some (jI 1)) M) (K0 : tText Y ≠ tText X → Q (some (jI 0)) M) : wc kc (d + 1) 204 [jR f, jR g] M Q := by
  obtain ⟨oY, vY⟩ := hY
  obtain ⟨oX, vX⟩ := hX
  obtain ⟨a0, a1, a2, ⟨a3, a4⟩, a5⟩ := cY
  obtain ⟨b0, b1, b2, ⟨b3, b4⟩, b5⟩ := cX
  have no : Y ≠ X → Q (some (jI 0)) M := fun hne => K0 (fun e => hne (tText_inj ⟨oY, vY⟩ ⟨oX, vX⟩ e))
  have lY := oY.2.2.2.2.2.2.1
  have lX := oX.2.2.2.2.2.2.1
  have gY := gP_b (n := 9) (gv9_of oY)
  have gX := gP_b (n := 9) (gv9_of oX)
  have e16 : ((16 ^ 9 : Nat) : Int) = 68719476736 := rfl
  have nY := oY.2.2.2.2.2.2.2.2.1
  have nX := oX.2.2.2.2.2.2.2.2.1
  have vgY := gv9_of oY
  have vgX := gv9_of oX
  obtain ⟨y1, y2, y3, y4, y5, y6, _⟩ := oY
  obtain ⟨x1, x2, x3, x4, x5, x6, _⟩ := oX
  refine s204 Hf Hg ?_
  rw [a0, a1, a2, a3, a5, b0, b1, b2, b3, b5]
  refine ⟨⟨⟨by omega, by omega⟩, ⟨by omega, by omega⟩⟩, fun h => no (fun e => h (by rw [e])), fun e0 => ⟨⟨⟨by omega, by omega⟩, ⟨by omega, by omega⟩⟩, fun h => no (fun e => h (by rw [e])), fun e1 => ⟨⟨⟨by omega, by omega⟩, ⟨by omega, by omega⟩⟩, fun h => no (fun e => h (by rw [e])), fun e2 => ⟨⟨⟨by omega, by omega⟩, ⟨by omega, by omega⟩⟩, fun h => no (fun e => h (by rw [e])), fun e3 => ⟨⟨⟨by omega, by omega⟩, ⟨by omega, by omega⟩⟩, fun hc => ?_, fun h => no (fun e => h (cmp_eq.mpr (by rw [e])))⟩⟩⟩⟩⟩
  have eg := cmp_eq.mp hc
  have hl : Y.2.2.2.1.length = X.2.2.2.1.length := by omega
  have z : ∀ (u i : Nat), i + u = Y.2.2.2.1.length → (∀ j : Nat, j < i → Y.2.2.2.1[j]? = X.2.2.2.1[j]?) → wp kc (d + 1) 204 60 [some (jR f), some (jR g), some (jI i)] [] M Q := by
    intro u
    induction u with
    | zero =>
      intro i hi hS
      refine s204_60 Hf Hg ?_
      rw [a3]
      refine ⟨⟨⟨by omega, by omega⟩, ⟨by omega, by omega⟩⟩, fun _ => K1 ?_, fun h => by omega⟩
      have er : Y.2.2.2.1 = X.2.2.2.1 := by
        refine List.ext_getElem? (fun j => ?_)
        by_cases hj : j < i
        · exact hS j hj
        · rw [List.getElem?_eq_none (by omega), List.getElem?_eq_none (by omega)]
      have eG : Y.2.2.2.2 = X.2.2.2.2 := gP_inj vgY vgX nY nX eg
      have : Y = X := Prod.ext e0 (Prod.ext e1 (Prod.ext e2 (Prod.ext er eG)))
      rw [this]
    | succ u ih =>
      intro i hi hS
      have hiY : i < Y.2.2.2.1.length := by omega
      have hiX : i < X.2.2.2.1.length := by omega
      have gY2 := List.getElem?_eq_getElem hiY
      have gX2 := List.getElem?_eq_getElem hiX
      have kY := a4 i _ gY2
      have kX := b4 i _ gX2
      have bY := vR_kb (vY _ (List.getElem_mem hiY))
      have bX := vR_kb (vX _ (List.getElem_mem hiX))
      refine s204_60 Hf Hg ?_
      rw [a3, kY, kX]
      refine ⟨⟨⟨by omega, by omega⟩, ⟨by omega, by omega⟩⟩, fun h => by omega, fun _ => ⟨⟨by omega, by omega⟩, ⟨by omega, by omega⟩, ⟨⟨by omega, by omega⟩, ⟨by omega, by omega⟩⟩, fun heq => ?_, fun hne => no (fun e => ?_)⟩⟩
      · have e := ky_inj (vY _ (List.getElem_mem hiY)) (vX _ (List.getElem_mem hiX)) heq
        have nx := ih (i + 1) (by omega) (fun j hj => by
          by_cases ej : j = i
          · subst ej
            rw [gY2, gX2, e]
          · exact hS j (by omega))
        rw [show ((i + 1 : Nat) : Int) = (i : Int) + 1 by omega] at nx
        exact nx
      · subst e
        exact hne rfl
  exact z Y.2.2.2.1.length 0 (by omega) (fun j hj => by omega)
end SAM
