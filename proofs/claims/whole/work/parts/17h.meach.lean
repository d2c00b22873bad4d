/-! THE REFERENCE'S READING: each. -/
/-- a blank and a side: side, place, wrong -/
def rSd (g : Int → Int) (e p w : Int) : Int × Int × Int := rC g e bsS (rT g e 32 p w).1 (rT g e 32 p w).2
theorem rSd_b {g : Int → Int} {e p w : Int} (h : p ≤ e) : -1 ≤ (rSd g e p w).1 ∧ (rSd g e p w).1 ≤ 20 ∧ p ≤ (rSd g e p w).2.1 ∧ (rSd g e p w).2.1 ≤ e ∧ 0 ≤ (rSd g e p w).2.2 ∧ (rSd g e p w).2.2 ≤ 1 := by
  have h1 := rT_b (g := g) (c := 32) (w := w) h
  have h2 := rC_b (g := g) (e := e) (bs := bsS) (p := (rT g e 32 p w).1) (w := (rT g e 32 p w).2) (by omega)
  have h3 : (bsS.length : Int) ≤ 19 := by decide
  unfold rSd
  omega
theorem rK_w {g : Int → Int} {e : Int} {bs : List Int32} {p : Int} : rK g e bs p 1 = (-1, 0, p, 1) := by
  unfold rK
  rw [rT_w]
  dsimp only
  rw [rC_w, if_neg (show ¬ hasN (-1) = true by decide)]
section ME
variable {kc : List va_E} {d : Nat} {M : fx_M} {Q : Option fx_V → fx_M → Prop}
theorem sp_scanEach (h : ms_at M) (K1 : (rK (M 135) (M 133 3) bsK (rSd (M 135) (M 133 3) (M 133 7) 0).2.1 (rSd (M 135) (M 133 3) (M 133 7) 0).2.2).2.2.2 = 0 → 0 ≤ (rSd (M 135) (M 133 3) (M 133 7) 0).1 → (rSd (M 135) (M 133 3) (M 133 7) 0).1 < 3 → 0 ≤ (rK (M 135) (M 133 3) bsK (rSd (M 135) (M 133 3) (M 133 7) 0).2.1 (rSd (M 135) (M 133 3) (M 133 7) 0).2.2).1 → (rK (M 135) (M 133 3) bsK (rSd (M 135) (M 133 3) (M 133 7) 0).2.1 (rSd (M 135) (M 133 3) (M 133 7) 0).2.2).1 < 8 → ∀ M', mfr M M' → M' 133 7 = (rK (M 135) (M 133 3) bsK (rSd (M 135) (M 133 3) (M 133 7) 0).2.1 (rSd (M 135) (M 133 3) (M 133 7) 0).2.2).2.2.1 → M' 133 14 = piS.getD (rSd (M 135) (M 133 3) (M 133 7) 0).1.toNat 0 → M' 133 10 = piK.getD (rK (M 135) (M 133 3) bsK (rSd (M 135) (M 133 3) (M 133 7) 0).2.1 (rSd (M 135) (M 133 3) (M 133 7) 0).2.2).1.toNat 0 → M' 133 11 = (rK (M 135) (M 133 3) bsK (rSd (M 135) (M 133 3) (M 133 7) 0).2.1 (rSd (M 135) (M 133 3) (M 133 7) 0).2.2).2.1 → Q (some (jI 1)) M') (K0 : (rK (M 135) (M 133 3) bsK (rSd (M 135) (M 133 3) (M 133 7) 0).2.1 (rSd (M 135) (M 133 3) (M 133 7) 0).2.2).2.2.2 = 1 → ∀ M', mfr M M' → M' 133 7 = (rK (M 135) (M 133 3) bsK (rSd (M 135) (M 133 3) (M 133 7) 0).2.1 (rSd (M 135) (M 133 3) (M 133 7) 0).2.2).2.2.1 → Q (some (jI 0)) M') : wc kc (d + 6) 234 [jR 133] M Q := by
  have hb := ms_p h
  have ht := rT_b (g := M 135) (e := M 133 3) (c := 32) (p := M 133 7) (w := 0) (by omega)
  refine s234 (sp_isByteR h (by omega) ?_)
  unfold rSd at K1 K0
  rcases rT01 (g := M 135) (e := M 133 3) (c := 32) (p := M 133 7) with hw | hw
  · rw [hw] at K1 K0 ⊢
    generalize rT (M 135) (M 133 3) 32 (M 133 7) 0 = t at K1 K0 ht hw
    refine s234_6 ⟨i01.2, fun _ => ?_, fun h => absurd h (by decide)⟩
    have hS := ms_md (p := t.1) (v := M 133 8) h (by omega)
    have g1 : (md M t.1 (M 133 8)) 135 = M 135 := md_g.1
    have g2 : (md M t.1 (M 133 8)) 133 3 = M 133 3 := md_g.2
    have hc := rC_b (g := M 135) (e := M 133 3) (bs := bsS) (p := t.1) (w := 0) (by omega)
    refine sp_scanW (bs := bsS) (pi := piS) (n := 3) (a := 53) (N := 3) swS (by omega) hS (by omega) (by omega) (by omega) ?_ ?_
    · rw [g1, g2, md_7, md_8, md_md]
      intro w0 k0 k3 p0 p1
      rw [w0] at K1 K0
      generalize rC (M 135) (M 133 3) bsS t.1 0 = q at K1 K0 hc w0 k0 k3 p0 p1
      have fm : ms_at (fx_up (md M q.2.1 (M 133 8)) 133 14 (piS.getD q.1.toNat 0)) := ms_up (ms_md h (by omega)) (by decide) (by omega)
      have f7 : (fx_up (md M q.2.1 (M 133 8)) 133 14 (piS.getD q.1.toNat 0)) 133 7 = q.2.1 := by rw [fx_up_nk (by decide), md_7]
      have f3 : (fx_up (md M q.2.1 (M 133 8)) 133 14 (piS.getD q.1.toNat 0)) 133 3 = M 133 3 := by rw [fx_up_nk (by decide), md_g.2]
      have f5 : (fx_up (md M q.2.1 (M 133 8)) 133 14 (piS.getD q.1.toNat 0)) 135 = M 135 := by
        funext j
        rw [fx_up_na (by decide), md_g.1]
      have f14 : (fx_up (md M q.2.1 (M 133 8)) 133 14 (piS.getD q.1.toNat 0)) 133 14 = piS.getD q.1.toNat 0 := fx_up_self _ _ _ _
      have ff : mfr M (fx_up (md M q.2.1 (M 133 8)) 133 14 (piS.getD q.1.toNat 0)) := mfr_up (by omega) (mfr_md (mfr_rf M))
      refine s234_20 ⟨⟨by omega, by omega⟩, fun h => by omega, fun _ => ?_⟩
      generalize fx_up (md M q.2.1 (M 133 8)) 133 14 (piS.getD q.1.toNat 0) = P at fm f7 f3 f5 f14 ff
      rw [← f5, ← f3, ← f7] at K1 K0
      refine sp_scanKind fm (fun w0 j0 j8 N hN n7 n10 n11 => s234_34 ⟨i01.2, by decide, K1 w0 k0 k3 j0 j8 N (fun b j a1 a2 => by rw [hN b j (by omega), ff b j a1 a2]) n7 (by rw [hN 133 14 (by omega), f14]) n10 n11⟩) (fun w1 N hN n7 => s234_34 ⟨i01.1, by decide, K0 w1 N (fun b j a1 a2 => by rw [hN b j (by omega), ff b j a1 a2]) n7⟩)
    · rw [g1, g2, md_7, md_8, md_md]
      intro w1
      rw [w1, rK_w] at K0
      exact s234_20 ⟨⟨by omega, by omega⟩, fun _ => K0 rfl _ (mfr_up (by omega) (mfr_md (mfr_rf M))) (by rw [fx_up_nk (by decide), md_7]), fun h => by omega⟩
  · rw [hw, rC_w] at K0
    dsimp only at K0
    rw [rK_w] at K0
    rw [hw]
    exact s234_6 ⟨i01.1, fun h => absurd rfl h, fun _ => K0 rfl _ (mfr_md (mfr_rf M)) (md_7 _ _ _)⟩
end ME
