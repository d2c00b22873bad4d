/-! THE REFERENCE'S READING: a cell and a symbol or digit; names. -/
theorem rBS_t {g : Int → Int} {e p : Int} (h : (rT g e 32 p 0).2 = 1) : rBS g e p 0 = (0, (rT g e 32 p 0).1, 1) := by
  unfold rBS
  rw [h, if_neg (by omega)]
  exact rN_w
theorem rBS01 {g : Int → Int} {e p w : Int} : (rBS g e p w).2.2 = 0 ∨ (rBS g e p w).2.2 = 1 := by
  unfold rBS rN
  split
  · simp
  · split <;> simp
section MS
variable {kc : List va_E} {d : Nat} {M : fx_M} {Q : Option fx_V → fx_M → Prop}
/-- scanSymbol: '-' (told as -1) or a digit -/
theorem sp_scanSymbol (h : ms_at M) (K1 : M 133 7 < M 133 3 → M 135 (M 133 7) = 45 → Q (some (jI 1)) (md M (M 133 7 + 1) (-1))) (K2 : ¬ (M 133 7 < M 133 3 ∧ M 135 (M 133 7) = 45) → Q (some (jI (1 - (rN (M 135) (M 133 3) 1 (M 133 7) 0).2.2))) (md M (rN (M 135) (M 133 3) 1 (M 133 7) 0).2.1 (if (rN (M 135) (M 133 3) 1 (M 133 7) 0).2.2 = 0 then (rN (M 135) (M 133 3) 1 (M 133 7) 0).1 else M 133 8))) : wc kc (d + 3) 237 [jR 133] M Q := by
  have hb := ms_p h
  refine s237 (sp_isByte h (by omega) (fun h1 h2 => s237_6 ⟨i01.2, fun h => by omega, fun _ => ?_⟩) (fun hn => s237_6 ⟨i01.1, fun _ => sp_scanDigit h (s237_20 ⟨?_, K2 hn⟩), fun h => absurd rfl h⟩))
  · have e : fx_up (fx_up M 133 7 (M 133 7 + 1)) 133 8 (-1) = md M (M 133 7 + 1) (-1) := rfl
    rw [e]
    exact K1 h1 h2
  · have := rN_b (g := M 135) (e := M 133 3) (m := 1) (p := M 133 7) (w := 0) (by omega) (by omega)
    omega
/-- a blank, then scanSymbol -/
theorem sp_bdS {R S : Option fx_V → fx_M → Prop} (h : ms_at M) (hR0 : (rBS (M 135) (M 133 3) (M 133 7) 0).2.2 = 1 → ∀ M1, (M1 = md M (rBS (M 135) (M 133 3) (M 133 7) 0).2.1 (M 133 8)) → R (some (jI 0)) M1) (hR1 : ∀ M1, wc kc (d + 3) 237 [jR 133] M1 S → R (some (jI 1)) M1) (hS0 : (rBS (M 135) (M 133 3) (M 133 7) 0).2.2 = 1 → ∀ M1, (M1 = md M (rBS (M 135) (M 133 3) (M 133 7) 0).2.1 (M 133 8)) → S (some (jI 0)) M1) (hS1 : (rBS (M 135) (M 133 3) (M 133 7) 0).2.2 = 0 → S (some (jI 1)) (md M (rBS (M 135) (M 133 3) (M 133 7) 0).2.1 (rBS (M 135) (M 133 3) (M 133 7) 0).1)) : wc kc (d + 3) 227 [jR 133, jI 32] M R := by
  have hb := ms_p h
  have ht := rT_b (g := M 135) (e := M 133 3) (c := 32) (p := M 133 7) (w := 0) (by omega)
  refine sp_isByteR h (by omega) ?_
  rcases rT01 (g := M 135) (e := M 133 3) (c := 32) (p := M 133 7) with hw | hw
  · unfold rBS at hS0 hS1
    rw [hw]
    have hS' := ms_md (p := (rT (M 135) (M 133 3) 32 (M 133 7) 0).1) (v := M 133 8) h (by omega)
    refine hR1 _ (sp_scanSymbol hS' (fun h1 h2 => ?_) (fun hn => ?_))
    · rw [md_7, md_g.2] at h1
      rw [md_7, md_g.1] at h2
      rw [md_7, md_md]
      rw [if_pos ⟨hw, h1, h2⟩] at hS1
      exact hS1 rfl
    · rw [md_7, md_g.1, md_g.2] at hn
      rw [if_neg (by omega), hw] at hS0 hS1
      rw [md_g.1, md_g.2, md_7, md_8, md_md]
      rcases rN01 (g := M 135) (e := M 133 3) (m := 1) (p := (rT (M 135) (M 133 3) 32 (M 133 7) 0).1) with hx | hx
      · rw [hx, if_pos rfl]
        exact hS1 hx
      · rw [hx, if_neg (show ¬ (1 : Int) = 0 by decide)]
        exact hS0 hx _ rfl
  · rw [rBS_t hw] at hR0
    rw [hw]
    exact hR0 rfl _ rfl
/-- scanCellAnd(true): a number, a symbol -/
theorem sp_scanCellSym (h : ms_at M) (K1 : (rBS (M 135) (M 133 3) (rBN (M 135) (M 133 3) 3 (M 133 7) 0).2.1 (rBN (M 135) (M 133 3) 3 (M 133 7) 0).2.2).2.2 = 0 → ∀ M', mfr M M' → M' 133 7 = (rBS (M 135) (M 133 3) (rBN (M 135) (M 133 3) 3 (M 133 7) 0).2.1 (rBN (M 135) (M 133 3) 3 (M 133 7) 0).2.2).2.1 → M' 133 20 = (rBN (M 135) (M 133 3) 3 (M 133 7) 0).1 → M' 133 8 = (rBS (M 135) (M 133 3) (rBN (M 135) (M 133 3) 3 (M 133 7) 0).2.1 (rBN (M 135) (M 133 3) 3 (M 133 7) 0).2.2).1 → Q (some (jI 1)) M') (K0 : (rBS (M 135) (M 133 3) (rBN (M 135) (M 133 3) 3 (M 133 7) 0).2.1 (rBN (M 135) (M 133 3) 3 (M 133 7) 0).2.2).2.2 = 1 → ∀ M', mfr M M' → M' 133 7 = (rBS (M 135) (M 133 3) (rBN (M 135) (M 133 3) 3 (M 133 7) 0).2.1 (rBN (M 135) (M 133 3) 3 (M 133 7) 0).2.2).2.1 → Q (some (jI 0)) M') : wc kc (d + 6) 235 [jR 133, jI 1] M Q := by
  have hb := ms_p h
  have b1 := rBN_b (g := M 135) (e := M 133 3) (m := 3) (p := M 133 7) (w := 0) (by omega) (by omega)
  refine s235 (sp_scanBlankNumber h ?_)
  rcases rBN01 (g := M 135) (e := M 133 3) (m := 3) (p := M 133 7) (w := 0) with hw | hw
  · rw [hw] at K1 K0 ⊢
    rw [if_pos rfl]
    refine s235_4 ⟨i01.2, fun _ => ?_, fun h => absurd h (by decide)⟩
    rw [md_8]
    generalize rBN (M 135) (M 133 3) 3 (M 133 7) 0 = q1 at K1 K0 b1 hw
    have n1 : mfr M (fx_up (md M q1.2.1 q1.1) 133 20 q1.1) := mfr_up (by omega) (mfr_md (mfr_rf M))
    have n2 : (fx_up (md M q1.2.1 q1.1) 133 20 q1.1) 133 7 = q1.2.1 := by rw [fx_up_nk (by decide), md_7]
    have n3 : (fx_up (md M q1.2.1 q1.1) 133 20 q1.1) 133 20 = q1.1 := fx_up_self _ _ _ _
    have n4 : ms_at (fx_up (md M q1.2.1 q1.1) 133 20 q1.1) := ms_up (ms_md h (by omega)) (by decide) (by omega)
    have n5 : (fx_up (md M q1.2.1 q1.1) 133 20 q1.1) 135 = M 135 := by
      funext j
      rw [fx_up_na (by decide), md_g.1]
    have n6 : (fx_up (md M q1.2.1 q1.1) 133 20 q1.1) 133 3 = M 133 3 := by rw [fx_up_nk (by decide), md_g.2]
    generalize fx_up (md M q1.2.1 q1.1) 133 20 q1.1 = N at n1 n2 n3 n4 n5 n6
    rw [← n5, ← n6, ← n2] at K1 K0
    refine sp_bdS (S := fun v M1 => wp kc (d + 6) 235 34 [none, none] (v.toList ++ []) M1 Q) n4 (fun hw M1 e => s235_23 ⟨i01.1, fun _ => K0 hw _ (by rw [e]; exact mfr_md n1) (by rw [e, md_7]), fun h => absurd rfl h⟩) (fun M1 hz => s235_23 ⟨i01.2, fun h => by omega, fun _ => ⟨i01.2, fun h => by omega, fun _ => hz⟩⟩) (fun hw M1 e => s235_34 ⟨i01.1, by decide, K0 hw _ (by rw [e]; exact mfr_md n1) (by rw [e, md_7])⟩) (fun hw => s235_34 ⟨i01.2, by decide, K1 hw _ (mfr_md n1) (md_7 _ _ _) (by rw [md_ne (by omega), n3]) (md_8 _ _ _)⟩)
  · rw [hw, rBS_w] at K0
    rw [hw, if_neg (show ¬ (1 : Int) = 0 by decide)]
    exact s235_4 ⟨i01.1, fun h => absurd rfl h, fun _ => K0 rfl _ (mfr_md (mfr_rf M)) (md_7 _ _ _)⟩
/-- scanCellAnd(false): a number, a digit -/
theorem sp_scanCellDig (h : ms_at M) (K1 : (rBN (M 135) (M 133 3) 1 (rBN (M 135) (M 133 3) 3 (M 133 7) 0).2.1 (rBN (M 135) (M 133 3) 3 (M 133 7) 0).2.2).2.2 = 0 → ∀ M', mfr M M' → M' 133 7 = (rBN (M 135) (M 133 3) 1 (rBN (M 135) (M 133 3) 3 (M 133 7) 0).2.1 (rBN (M 135) (M 133 3) 3 (M 133 7) 0).2.2).2.1 → M' 133 20 = (rBN (M 135) (M 133 3) 3 (M 133 7) 0).1 → M' 133 8 = (rBN (M 135) (M 133 3) 1 (rBN (M 135) (M 133 3) 3 (M 133 7) 0).2.1 (rBN (M 135) (M 133 3) 3 (M 133 7) 0).2.2).1 → Q (some (jI 1)) M') (K0 : (rBN (M 135) (M 133 3) 1 (rBN (M 135) (M 133 3) 3 (M 133 7) 0).2.1 (rBN (M 135) (M 133 3) 3 (M 133 7) 0).2.2).2.2 = 1 → ∀ M', mfr M M' → M' 133 7 = (rBN (M 135) (M 133 3) 1 (rBN (M 135) (M 133 3) 3 (M 133 7) 0).2.1 (rBN (M 135) (M 133 3) 3 (M 133 7) 0).2.2).2.1 → Q (some (jI 0)) M') : wc kc (d + 6) 235 [jR 133, jI 0] M Q := by
  have hb := ms_p h
  have b1 := rBN_b (g := M 135) (e := M 133 3) (m := 3) (p := M 133 7) (w := 0) (by omega) (by omega)
  refine s235 (sp_scanBlankNumber h ?_)
  rcases rBN01 (g := M 135) (e := M 133 3) (m := 3) (p := M 133 7) (w := 0) with hw | hw
  · rw [hw] at K1 K0 ⊢
    rw [if_pos rfl]
    refine s235_4 ⟨i01.2, fun _ => ?_, fun h => absurd h (by decide)⟩
    rw [md_8]
    generalize rBN (M 135) (M 133 3) 3 (M 133 7) 0 = q1 at K1 K0 b1 hw
    have n1 : mfr M (fx_up (md M q1.2.1 q1.1) 133 20 q1.1) := mfr_up (by omega) (mfr_md (mfr_rf M))
    have n2 : (fx_up (md M q1.2.1 q1.1) 133 20 q1.1) 133 7 = q1.2.1 := by rw [fx_up_nk (by decide), md_7]
    have n3 : (fx_up (md M q1.2.1 q1.1) 133 20 q1.1) 133 20 = q1.1 := fx_up_self _ _ _ _
    have n4 : ms_at (fx_up (md M q1.2.1 q1.1) 133 20 q1.1) := ms_up (ms_md h (by omega)) (by decide) (by omega)
    have n5 : (fx_up (md M q1.2.1 q1.1) 133 20 q1.1) 135 = M 135 := by
      funext j
      rw [fx_up_na (by decide), md_g.1]
    have n6 : (fx_up (md M q1.2.1 q1.1) 133 20 q1.1) 133 3 = M 133 3 := by rw [fx_up_nk (by decide), md_g.2]
    generalize fx_up (md M q1.2.1 q1.1) 133 20 q1.1 = N at n1 n2 n3 n4 n5 n6
    rw [← n5, ← n6, ← n2] at K1 K0
    refine sp_bd1 (S := fun v M1 => wp kc (d + 6) 235 44 [none, none] (v.toList ++ []) M1 Q) n4 (fun hw M1 e => s235_23 ⟨i01.1, fun _ => K0 hw _ (by rw [e]; exact mfr_md n1) (by rw [e, md_7]), fun h => absurd rfl h⟩) (fun M1 hz => s235_23 ⟨i01.2, fun h => by omega, fun _ => ⟨i01.1, fun _ => hz, fun h => absurd rfl h⟩⟩) (fun hw M1 e => s235_44 ⟨i01.1, by decide, K0 hw _ (by rw [e]; exact mfr_md n1) (by rw [e, md_7])⟩) (fun hw => s235_44 ⟨i01.2, by decide, K1 hw _ (mfr_md n1) (md_7 _ _ _) (by rw [md_ne (by omega), n3]) (md_8 _ _ _)⟩)
  · rw [hw, rBN_w] at K0
    rw [hw, if_neg (show ¬ (1 : Int) = 0 by decide)]
    exact s235_4 ⟨i01.1, fun h => absurd rfl h, fun _ => K0 rfl _ (mfr_md (mfr_rf M)) (md_7 _ _ _)⟩
theorem mname_loop : ∀ (k : Nat) (M : fx_M) (l : Int), ms_at M → M 133 7 - M 133 15 = l → l + k = 8 → 0 ≤ l → Q (some (jI (if 0 < l + rL (M 135) (M 133 3) k (M 133 7) then 1 else 0))) (fx_up (md M (M 133 7 + rL (M 135) (M 133 3) k (M 133 7)) (M 133 8)) 133 16 (l + rL (M 135) (M 133 3) k (M 133 7))) → wp kc (d + 2) 249 8 [some (jR 133)] [] M Q := by
  intro k
  induction k with
  | zero =>
    intro M l h hl hk h0 K
    have K : Q (some (jI (if 0 < l + ((0 : Nat) : Int) then 1 else 0))) (fx_up (md M (M 133 7 + ((0 : Nat) : Int)) (M 133 8)) 133 16 (l + ((0 : Nat) : Int))) := K
    rw [show l + ((0 : Nat) : Int) = l by omega, show M 133 7 + ((0 : Nat) : Int) = M 133 7 by omega, md_id, ← hl] at K
    exact s249_8 ⟨⟨by omega, by omega⟩, fun _ => ⟨⟨by omega, by omega⟩, ⟨by split <;> omega, by split <;> omega⟩, K⟩, fun h => by omega⟩
  | succ k ih =>
    intro M l h hl hk h0 K
    have hb := ms_p h
    have hh := here_in h
    have stop : ¬ (M 133 7 < M 133 3 ∧ 97 ≤ M 135 (M 133 7) ∧ M 135 (M 133 7) ≤ 122) → fx_in32 (M 133 7 - M 133 15) ∧ ((0 : Int) ≤ (if 0 < (M 133 7) - (M 133 15) then (1 : Int) else 0) ∧ (if 0 < (M 133 7) - (M 133 15) then (1 : Int) else 0) ≤ 1) ∧ Q (some (jI (if 0 < (M 133 7) - (M 133 15) then (1 : Int) else 0))) (fx_up M 133 16 ((M 133 7) - (M 133 15))) := fun hn => by
      have eL : rL (M 135) (M 133 3) (k + 1) (M 133 7) = 0 := by rw [rL, if_neg hn]
      rw [eL, show l + ((0 : Nat) : Int) = l by omega, show M 133 7 + ((0 : Nat) : Int) = M 133 7 by omega, md_id, ← hl] at K
      exact ⟨⟨by omega, by omega⟩, ⟨by split <;> omega, by split <;> omega⟩, K⟩
    refine s249_8 ⟨⟨by omega, by omega⟩, fun h => by omega, fun _ => sp_here h (s249_26 ⟨hh, fun hx => stop ?_, fun hx => sp_here h (s249_35 ⟨hh, fun hy => stop ?_, fun hy => ?_⟩)⟩)⟩
    · intro hc
      rw [if_pos hc.1] at hx
      omega
    · intro hc
      rw [if_pos hc.1] at hy
      omega
    · by_cases hp : M 133 7 < M 133 3
      · rw [if_pos hp] at hx hy
        have eL : rL (M 135) (M 133 3) (k + 1) (M 133 7) = rL (M 135) (M 133 3) k (M 133 7 + 1) + 1 := by rw [rL, if_pos ⟨hp, hx, hy⟩]
        rw [eL] at K
        rw [md_p]
        refine ih _ (l + 1) (ms_md h (by omega)) (by rw [md_7, md_ne (by omega)]; omega) (by omega) (by omega) ?_
        rw [md_g.1, md_g.2, md_7, md_8, md_md]
        have e4 : l + 1 + (rL (M 135) (M 133 3) k (M 133 7 + 1) : Int) = l + ((rL (M 135) (M 133 3) k (M 133 7 + 1) + 1 : Nat) : Int) := by omega
        have e5 : M 133 7 + 1 + (rL (M 135) (M 133 3) k (M 133 7 + 1) : Int) = M 133 7 + ((rL (M 135) (M 133 3) k (M 133 7 + 1) + 1 : Nat) : Int) := by omega
        rw [e4, e5]
        exact K
      · rw [if_neg hp] at hx
        omega
/-- scanName: where it begins (15), its length (16) -/
theorem sp_scanName (h : ms_at M) (K : Q (some (jI (1 - (rNm (M 135) (M 133 3) (M 133 7) 0).2))) (fx_up (md (fx_up M 133 15 (M 133 7)) (M 133 7 + (rNm (M 135) (M 133 3) (M 133 7) 0).1) (M 133 8)) 133 16 (rNm (M 135) (M 133 3) (M 133 7) 0).1)) : wc kc (d + 2) 249 [jR 133] M Q := by
  have hb := ms_p h
  have h2 : ms_at (fx_up M 133 15 (M 133 7)) := ms_up h (by decide) (by omega)
  have n7 : (fx_up M 133 15 (M 133 7)) 133 7 = M 133 7 := fx_up_nk (by decide)
  have n8 : (fx_up M 133 15 (M 133 7)) 133 8 = M 133 8 := fx_up_nk (by decide)
  have n3 : (fx_up M 133 15 (M 133 7)) 133 3 = M 133 3 := fx_up_nk (by decide)
  have n5 : (fx_up M 133 15 (M 133 7)) 135 = M 135 := by
    funext j
    exact fx_up_na (by decide)
  refine s249 (mname_loop 8 _ 0 h2 (by rw [fx_up_self, n7]; omega) (by omega) (by omega) ?_)
  unfold rNm at K
  rw [if_pos rfl] at K
  dsimp only at K
  rw [n3, n5, n7, n8, show (0 : Int) + (rL (M 135) (M 133 3) 8 (M 133 7) : Int) = (rL (M 135) (M 133 3) 8 (M 133 7) : Int) by omega]
  have e : (if (0 : Int) < (rL (M 135) (M 133 3) 8 (M 133 7) : Int) then (1 : Int) else 0) = 1 - (if rL (M 135) (M 133 3) 8 (M 133 7) = 0 then 1 else 0) := by
    by_cases hz : rL (M 135) (M 133 3) 8 (M 133 7) = 0
    · rw [if_pos hz, if_neg (by omega)]
      rfl
    · rw [if_neg hz, if_pos (by omega)]
      rfl
  rw [e]
  exact K
end MS
