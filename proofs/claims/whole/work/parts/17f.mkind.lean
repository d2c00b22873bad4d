/-! THE REFERENCE'S READING: words as choices; kinds, rules, each. -/
theorem rC_w {g : Int → Int} {e : Int} {bs : List Int32} {p : Int} : rC g e bs p 1 = (-1, p, 1) := by
  unfold rC
  rw [if_neg (by decide)]
theorem rC01 {g : Int → Int} {e : Int} {bs : List Int32} {p w : Int} : (rC g e bs p w).2.2 = 0 ∨ (rC g e bs p w).2.2 = 1 := by
  unfold rC
  (repeat' split) <;> simp
theorem rC_n {g : Int → Int} {e : Int} {bs : List Int32} {p w : Int} (h : (rC g e bs p w).2.2 = 1) : (rC g e bs p w).1 < 0 := by
  unfold rC at *
  split at h
  · next hw =>
    rw [if_pos hw]
    dsimp only at h ⊢
    split at h
    · assumption
    · exact absurd h (by decide)
  · next hw =>
    rw [if_neg hw]
    exact (show (-1 : Int) < 0 by decide)
theorem rC_o {g : Int → Int} {e : Int} {bs : List Int32} {p w : Int} (h : (rC g e bs p w).2.2 = 0) : 0 ≤ (rC g e bs p w).1 := by
  unfold rC at *
  split at h
  · next hw =>
    rw [if_pos hw]
    dsimp only at h ⊢
    split at h
    · exact absurd h (by decide)
    · omega
  · exact absurd h (show ¬ (1 : Int) = 0 by decide)
section MK
variable {kc : List va_E} {d : Nat} {M : fx_M} {Q : Option fx_V → fx_M → Prop}
/-- scanWord, told by the class's choice -/
theorem sp_scanW {bs : List Int32} {pi : List Int} {n : Nat} {a : Int} {N : Int} (hsw : (chs (M 135) (M 133 3) (M 133 7) bs).2.2 = (swl (M 135) (M 133 3) (M 133 7) n a 0 (-1)).2 ∧ (((chs (M 135) (M 133 3) (M 133 7) bs).1 = -1 ∧ (swl (M 135) (M 133 3) (M 133 7) n a 0 (-1)).1 = -1) ∨ (0 ≤ (chs (M 135) (M 133 3) (M 133 7) bs).1 ∧ (chs (M 135) (M 133 3) (M 133 7) bs).1 < N ∧ (swl (M 135) (M 133 3) (M 133 7) n a 0 (-1)).1 = pi.getD (chs (M 135) (M 133 3) (M 133 7) bs).1.toNat 0 ∧ a ≤ (swl (M 135) (M 133 3) (M 133 7) n a 0 (-1)).1 ∧ (swl (M 135) (M 133 3) (M 133 7) n a 0 (-1)).1 < a + n ∧ (chs (M 135) (M 133 3) (M 133 7) bs).2.1 = wln (wrd (swl (M 135) (M 133 3) (M 133 7) n a 0 (-1)).1)))) {l : Int} (hl : l + 1 = a + n) (h : ms_at M) (ha : 0 ≤ a) (hn : 1 ≤ n) (han : a + n ≤ 57) (K1 : (rC (M 135) (M 133 3) bs (M 133 7) 0).2.2 = 0 → 0 ≤ (rC (M 135) (M 133 3) bs (M 133 7) 0).1 → (rC (M 135) (M 133 3) bs (M 133 7) 0).1 < N → a ≤ pi.getD (rC (M 135) (M 133 3) bs (M 133 7) 0).1.toNat 0 → pi.getD (rC (M 135) (M 133 3) bs (M 133 7) 0).1.toNat 0 < a + n → Q (some (jI (pi.getD (rC (M 135) (M 133 3) bs (M 133 7) 0).1.toNat 0))) (md M (rC (M 135) (M 133 3) bs (M 133 7) 0).2.1 (M 133 8))) (K0 : (rC (M 135) (M 133 3) bs (M 133 7) 0).2.2 = 1 → Q (some (jI (-1))) (md M (rC (M 135) (M 133 3) bs (M 133 7) 0).2.1 (M 133 8))) : wc kc (d + 4) 220 [jR 133, jI a, jI l] M Q := by
  refine sp_scanWord h ha (by omega) (by omega) ?_
  have en : (l + 1 - a).toNat = n := by omega
  rw [en]
  unfold rC at K1 K0
  rw [if_pos rfl] at K1 K0
  dsimp only at K1 K0
  obtain ⟨h1, h2⟩ := hsw
  rcases h2 with ⟨c1, c2⟩ | ⟨c1, c2, c3, c4, c5, c6⟩
  · rw [c1] at K0
    rw [if_pos (by omega), if_pos (by omega)] at K0
    rw [c2, if_pos (by omega), ← h1, md_p]
    exact K0 rfl
  · rw [if_neg (by omega), if_neg (by omega)] at K1
    rw [if_neg (by omega), ← c6, md_p, c3]
    rw [c3] at c4 c5
    exact K1 rfl c1 c2 c4 c5
theorem hasN_pi : ∀ j : Fin 8, (hasN ((j : Nat) : Int) = true ↔ 49 ≤ piK.getD j 0) := by decide +kernel
/-- scanKind: kind (10), number (11) -/
theorem sp_scanKind (h : ms_at M) (K1 : (rK (M 135) (M 133 3) bsK (M 133 7) 0).2.2.2 = 0 → 0 ≤ (rK (M 135) (M 133 3) bsK (M 133 7) 0).1 → (rK (M 135) (M 133 3) bsK (M 133 7) 0).1 < 8 → ∀ M', (∀ b j, ¬ (b = 133 ∧ (j = 7 ∨ j = 8 ∨ j = 10 ∨ j = 11)) → M' b j = M b j) → M' 133 7 = (rK (M 135) (M 133 3) bsK (M 133 7) 0).2.2.1 → M' 133 10 = piK.getD (rK (M 135) (M 133 3) bsK (M 133 7) 0).1.toNat 0 → M' 133 11 = (rK (M 135) (M 133 3) bsK (M 133 7) 0).2.1 → Q (some (jI 1)) M') (K0 : (rK (M 135) (M 133 3) bsK (M 133 7) 0).2.2.2 = 1 → ∀ M', (∀ b j, ¬ (b = 133 ∧ (j = 7 ∨ j = 8 ∨ j = 10 ∨ j = 11)) → M' b j = M b j) → M' 133 7 = (rK (M 135) (M 133 3) bsK (M 133 7) 0).2.2.1 → Q (some (jI 0)) M') : wc kc (d + 5) 231 [jR 133] M Q := by
  have hb := ms_p h
  have ht := rT_b (g := M 135) (e := M 133 3) (c := 32) (p := M 133 7) (w := 0) (by omega)
  refine s231 (sp_isByteR h (by omega) ?_)
  unfold rK at K1 K0
  rcases rT01 (g := M 135) (e := M 133 3) (c := 32) (p := M 133 7) with hw | hw
  · rw [hw] at K1 K0 ⊢
    generalize rT (M 135) (M 133 3) 32 (M 133 7) 0 = t at K1 K0 ht hw
    refine s231_6 ⟨i01.2, fun _ => ?_, fun h => absurd h (by decide)⟩
    have hS := ms_md (p := t.1) (v := M 133 8) h (by omega)
    have g1 : (md M t.1 (M 133 8)) 135 = M 135 := md_g.1
    have g2 : (md M t.1 (M 133 8)) 133 3 = M 133 3 := md_g.2
    have hc := rC_b (g := M 135) (e := M 133 3) (bs := bsK) (p := t.1) (w := 0) (by omega)
    refine sp_scanW (bs := bsK) (pi := piK) (n := 8) (a := 45) (N := 8) swK (by omega) hS (by omega) (by omega) (by omega) ?_ ?_
    · rw [g1, g2, md_7, md_8, md_md]
      intro w0 k0 k8 p0 p1
      rw [w0] at K1 K0
      generalize rC (M 135) (M 133 3) bsK t.1 0 = q at K1 K0 hc w0 k0 k8 p0 p1
      have hN := hasN_pi ⟨q.1.toNat, by omega⟩
      have hq : (((⟨q.1.toNat, by omega⟩ : Fin 8) : Nat) : Int) = q.1 := by
        show ((q.1.toNat : Nat) : Int) = q.1
        omega
      rw [hq] at hN
      have hN : hasN q.1 = true ↔ 49 ≤ piK.getD q.1.toNat 0 := hN
      have fr : ∀ b j, ¬ (b = 133 ∧ (j = 7 ∨ j = 8 ∨ j = 10 ∨ j = 11)) → (fx_up (fx_up (md M q.2.1 (M 133 8)) 133 10 (piK.getD q.1.toNat 0)) 133 11 0) b j = M b j := fun b j hbj => by
        rw [fx_up_ne (by omega), fx_up_ne (by omega), md_ne (by omega)]
      have f7 : (fx_up (fx_up (md M q.2.1 (M 133 8)) 133 10 (piK.getD q.1.toNat 0)) 133 11 0) 133 7 = q.2.1 := by rw [fx_up_nk (by decide), fx_up_nk (by decide), md_7]
      have f10 : (fx_up (fx_up (md M q.2.1 (M 133 8)) 133 10 (piK.getD q.1.toNat 0)) 133 11 0) 133 10 = piK.getD q.1.toNat 0 := by rw [fx_up_nk (by decide), fx_up_self]
      have f11 : (fx_up (fx_up (md M q.2.1 (M 133 8)) 133 10 (piK.getD q.1.toNat 0)) 133 11 0) 133 11 = 0 := fx_up_self _ _ _ _
      have fm : ms_at (fx_up (fx_up (md M q.2.1 (M 133 8)) 133 10 (piK.getD q.1.toNat 0)) 133 11 0) := ms_up (ms_up (ms_md h (by omega)) (by decide) (by omega)) (by decide) (by omega)
      refine s231_20 ⟨⟨by omega, by omega⟩, fun hx => ?_, fun hx => ⟨⟨by omega, by omega⟩, ⟨by split <;> omega, by split <;> omega⟩, ?_⟩⟩
      · rw [if_pos (hN.mpr hx)] at K1 K0
        generalize fx_up (fx_up (md M q.2.1 (M 133 8)) 133 10 (piK.getD q.1.toNat 0)) 133 11 0 = P at fr f7 f10 f11 fm
        have e1 : P 135 = M 135 := by
          funext j
          exact fr 135 j (by omega)
        have e2 : P 133 3 = M 133 3 := fr 133 3 (by omega)
        dsimp only at K1 K0
        rw [← e1, ← e2, ← f7] at K1 K0
        refine sp_bd3 (S := fun v M1 => wp kc (d + 5) 231 63 [some (jR 133)] (v.toList ++ []) M1 Q) fm (fun hw M1 e => s231_56 ⟨i01.1, fun _ => K0 hw _ (fun b j hbj => by rw [e, md_ne (by omega), fr b j hbj]) (by rw [e, md_7]), fun h => absurd rfl h⟩) (fun M1 hz => s231_56 ⟨i01.2, fun h => by omega, fun _ => hz⟩) (fun hw M1 e => s231_63 ⟨i01.1, fun h => absurd rfl h, fun _ => K0 hw _ (fun b j hbj => by rw [e, md_ne (by omega), fr b j hbj]) (by rw [e, md_7])⟩) (fun hw => s231_63 ⟨i01.2, fun _ => K1 hw k0 k8 _ (fun b j hbj => by rw [fx_up_ne (by omega), md_ne (by omega), fr b j hbj]) ?_ ?_ ?_, fun h => by omega⟩)
        · rw [fx_up_nk (by decide), md_7]
        · rw [fx_up_nk (by decide), md_ne (by omega), f10]
        · rw [fx_up_self, md_8]
      · have hne : ¬ hasN q.1 = true := fun hh => by
          have := hN.mp hh
          omega
        rw [if_neg hne] at K1
        rw [if_neg (show ¬ piK.getD q.1.toNat 0 < 0 by omega)]
        exact K1 rfl k0 k8 _ fr f7 f10 f11
    · rw [g1, g2, md_7, md_8, md_md]
      intro w1
      have k0 := rC_n w1
      rw [w1] at K0
      generalize rC (M 135) (M 133 3) bsK t.1 0 = q at K0 hc w1 k0
      have hne : ¬ hasN q.1 = true := by
        unfold hasN
        simp
        omega
      rw [if_neg hne] at K0
      refine s231_20 ⟨⟨by omega, by omega⟩, fun h => by omega, fun _ => ⟨⟨by omega, by omega⟩, by decide, ?_⟩⟩
      rw [if_pos (by omega)]
      exact K0 rfl _ (fun b j hbj => by rw [fx_up_ne (by omega), fx_up_ne (by omega), md_ne (by omega)]) (by rw [fx_up_nk (by decide), fx_up_nk (by decide), md_7])
  · rw [hw, rC_w] at K0
    rw [if_neg (show ¬ hasN (-1) = true by decide)] at K0
    rw [hw]
    exact s231_6 ⟨i01.1, fun h => absurd rfl h, fun _ => K0 rfl _ (fun b j hbj => md_ne (by omega)) (md_7 _ _ _)⟩
end MK
