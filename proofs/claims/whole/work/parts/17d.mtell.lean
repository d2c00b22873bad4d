/-! THE REFERENCE'S READING: sizes, cells and symbols, names. -/
/-- only what reading writes has changed -/
def mfr (M M' : fx_M) : Prop := ∀ b j, ¬ (b = 133 ∧ 7 ≤ j ∧ j ≤ 22) → b ≠ 137 → M' b j = M b j
theorem mfr_rf (M : fx_M) : mfr M M := fun _ _ _ _ => rfl
theorem mfr_md {M N : fx_M} {p v : Int} (h : mfr M N) : mfr M (md N p v) := fun b j h1 h2 => by rw [md_ne (by omega), h b j h1 h2]
theorem mfr_up {M N : fx_M} {k v : Int} (hk : 7 ≤ k ∧ k ≤ 22) (h : mfr M N) : mfr M (fx_up N 133 k v) := fun b j h1 h2 => by rw [fx_up_ne (by omega), h b j h1 h2]
theorem mfr_tr {M N P : fx_M} (h1 : mfr M N) (h2 : mfr N P) : mfr M P := fun b j a1 a2 => by rw [h2 b j a1 a2, h1 b j a1 a2]
theorem rBN_w {g : Int → Int} {e : Int} {m : Nat} {p : Int} : rBN g e m p 1 = (0, p, 1) := by
  unfold rBN
  rw [rT_w]
  exact rN_w
theorem rBS_w {g : Int → Int} {e p : Int} : rBS g e p 1 = (0, p, 1) := by
  unfold rBS
  rw [rT_w]
  dsimp only
  rw [if_neg (by omega)]
  exact rN_w
theorem rBN_t {g : Int → Int} {e : Int} {m : Nat} {p : Int} (h : (rT g e 32 p 0).2 = 1) : rBN g e m p 0 = (0, (rT g e 32 p 0).1, 1) := by
  unfold rBN
  rw [h]
  exact rN_w
theorem rBN_o {g : Int → Int} {e : Int} {m : Nat} {p : Int} (h : (rT g e 32 p 0).2 = 0) : rBN g e m p 0 = rN g e m (rT g e 32 p 0).1 0 := by
  unfold rBN
  rw [h]
theorem rT01 {g : Int → Int} {e c p : Int} : (rT g e c p 0).2 = 0 ∨ (rT g e c p 0).2 = 1 := by
  unfold rT
  (repeat' split) <;> simp
theorem rN01 {g : Int → Int} {e : Int} {m : Nat} {p : Int} : (rN g e m p 0).2.2 = 0 ∨ (rN g e m p 0).2.2 = 1 := by
  unfold rN
  split <;> simp
theorem rBN01 {g : Int → Int} {e : Int} {m : Nat} {p w : Int} : (rBN g e m p w).2.2 = 0 ∨ (rBN g e m p w).2.2 = 1 := by
  unfold rBN rN
  split <;> simp
section MT
variable {kc : List va_E} {d : Nat} {M : fx_M} {Q : Option fx_V → fx_M → Prop}
/-- isByte(' '), then a number of at most 1 digits, in any method: R behind the first, S behind the second -/
theorem sp_bd1 {R S : Option fx_V → fx_M → Prop} (h : ms_at M) (hR0 : (rBN (M 135) (M 133 3) 1 (M 133 7) 0).2.2 = 1 → ∀ M1, (M1 = md M (rBN (M 135) (M 133 3) 1 (M 133 7) 0).2.1 (M 133 8)) → R (some (jI 0)) M1) (hR1 : ∀ M1, wc kc (d + 2) 229 [jR 133] M1 S → R (some (jI 1)) M1) (hS0 : (rBN (M 135) (M 133 3) 1 (M 133 7) 0).2.2 = 1 → ∀ M1, (M1 = md M (rBN (M 135) (M 133 3) 1 (M 133 7) 0).2.1 (M 133 8)) → S (some (jI 0)) M1) (hS1 : (rBN (M 135) (M 133 3) 1 (M 133 7) 0).2.2 = 0 → S (some (jI 1)) (md M (rBN (M 135) (M 133 3) 1 (M 133 7) 0).2.1 (rBN (M 135) (M 133 3) 1 (M 133 7) 0).1)) : wc kc (d + 2) 227 [jR 133, jI 32] M R := by
  have hb := ms_p h
  have ht := rT_b (g := M 135) (e := M 133 3) (c := 32) (p := M 133 7) (w := 0) (by omega)
  refine sp_isByteR h (by omega) ?_
  rcases rT01 (g := M 135) (e := M 133 3) (c := 32) (p := M 133 7) with hw | hw
  · rw [rBN_o hw] at hS0 hS1
    rw [hw]
    have hS' := ms_md (p := (rT (M 135) (M 133 3) 32 (M 133 7) 0).1) (v := M 133 8) h (by omega)
    refine hR1 _ (sp_scanDigit hS' ?_)
    rw [md_g.1, md_g.2, md_7, md_8, md_md]
    rcases rN01 (g := M 135) (e := M 133 3) (m := 1) (p := (rT (M 135) (M 133 3) 32 (M 133 7) 0).1) with hx | hx
    · rw [hx, if_pos rfl]
      exact hS1 hx
    · rw [hx, if_neg (show ¬ (1 : Int) = 0 by decide)]
      exact hS0 hx _ rfl
  · rw [rBN_t hw] at hR0
    rw [hw]
    exact hR0 rfl _ rfl
/-- isByte(' '), then a number of at most 3 digits, in any method: R behind the first, S behind the second -/
theorem sp_bd3 {R S : Option fx_V → fx_M → Prop} (h : ms_at M) (hR0 : (rBN (M 135) (M 133 3) 3 (M 133 7) 0).2.2 = 1 → ∀ M1, (M1 = md M (rBN (M 135) (M 133 3) 3 (M 133 7) 0).2.1 (M 133 8)) → R (some (jI 0)) M1) (hR1 : ∀ M1, wc kc (d + 4) 232 [jR 133] M1 S → R (some (jI 1)) M1) (hS0 : (rBN (M 135) (M 133 3) 3 (M 133 7) 0).2.2 = 1 → ∀ M1, (M1 = md M (rBN (M 135) (M 133 3) 3 (M 133 7) 0).2.1 (M 133 8)) → S (some (jI 0)) M1) (hS1 : (rBN (M 135) (M 133 3) 3 (M 133 7) 0).2.2 = 0 → S (some (jI 1)) (md M (rBN (M 135) (M 133 3) 3 (M 133 7) 0).2.1 (rBN (M 135) (M 133 3) 3 (M 133 7) 0).1)) : wc kc (d + 4) 227 [jR 133, jI 32] M R := by
  have hb := ms_p h
  have ht := rT_b (g := M 135) (e := M 133 3) (c := 32) (p := M 133 7) (w := 0) (by omega)
  refine sp_isByteR h (by omega) ?_
  rcases rT01 (g := M 135) (e := M 133 3) (c := 32) (p := M 133 7) with hw | hw
  · rw [rBN_o hw] at hS0 hS1
    rw [hw]
    have hS' := ms_md (p := (rT (M 135) (M 133 3) 32 (M 133 7) 0).1) (v := M 133 8) h (by omega)
    refine hR1 _ (sp_scanNumber hS' ?_)
    rw [md_g.1, md_g.2, md_7, md_8, md_md]
    rcases rN01 (g := M 135) (e := M 133 3) (m := 3) (p := (rT (M 135) (M 133 3) 32 (M 133 7) 0).1) with hx | hx
    · rw [hx, if_pos rfl]
      exact hS1 hx
    · rw [hx, if_neg (show ¬ (1 : Int) = 0 by decide)]
      exact hS0 hx _ rfl
  · rw [rBN_t hw] at hR0
    rw [hw]
    exact hR0 rfl _ rfl
/-- the three sizes: values, place, wrong -/
def rZ1 (g : Int → Int) (e p w : Int) : Int × Int × Int := rBN g e 1 p w
def rZ2 (g : Int → Int) (e p w : Int) : Int × Int × Int := rBN g e 1 (rZ1 g e p w).2.1 (rZ1 g e p w).2.2
def rZ3 (g : Int → Int) (e p w : Int) : Int × Int × Int := rBN g e 1 (rZ2 g e p w).2.1 (rZ2 g e p w).2.2
theorem i01 : fx_in32 0 ∧ fx_in32 1 := ⟨⟨by omega, by omega⟩, ⟨by omega, by omega⟩⟩
theorem sp_scanSizes (h : ms_at M) (K1 : (rZ3 (M 135) (M 133 3) (M 133 7) 0).2.2 = 0 → ∀ M', mfr M M' → M' 133 7 = (rZ3 (M 135) (M 133 3) (M 133 7) 0).2.1 → M' 133 17 = (rZ1 (M 135) (M 133 3) (M 133 7) 0).1 → M' 133 18 = (rZ2 (M 135) (M 133 3) (M 133 7) 0).1 → M' 133 19 = (rZ3 (M 135) (M 133 3) (M 133 7) 0).1 → Q (some (jI 1)) M') (K0 : (rZ3 (M 135) (M 133 3) (M 133 7) 0).2.2 = 1 → ∀ M', mfr M M' → M' 133 7 = (rZ3 (M 135) (M 133 3) (M 133 7) 0).2.1 → Q (some (jI 0)) M') : wc kc (d + 3) 226 [jR 133] M Q := by
  have hb := ms_p h
  unfold rZ3 rZ2 rZ1 at K1 K0
  have b1 := rBN_b (g := M 135) (e := M 133 3) (m := 1) (p := M 133 7) (w := 0) (by omega) (by omega)
  have f1 : (rBN (M 135) (M 133 3) 1 (M 133 7) 0).2.2 = 1 → ∀ M', mfr M M' → M' 133 7 = (rBN (M 135) (M 133 3) 1 (M 133 7) 0).2.1 → Q (some (jI 0)) M' := fun hw M' m1 m2 => by
    rw [hw, rBN_w, rBN_w] at K0
    exact K0 rfl M' m1 m2
  refine s226 (sp_bd1 (S := fun v M1 => wp kc (d + 3) 226 13 [some (jR 133)] (v.toList ++ []) M1 Q) h (fun hw M1 e => s226_6 ⟨i01.1, fun _ => f1 hw _ (by rw [e]; exact mfr_md (mfr_rf M)) (by rw [e, md_7]), fun h => absurd rfl h⟩) (fun M1 hz => s226_6 ⟨i01.2, fun h => by omega, fun _ => hz⟩) (fun hw M1 e => s226_13 ⟨i01.1, fun h => absurd rfl h, fun _ => f1 hw _ (by rw [e]; exact mfr_md (mfr_rf M)) (by rw [e, md_7])⟩) (fun hw => s226_13 ⟨i01.2, fun _ => ?_, fun h => by omega⟩))
  rw [hw] at K1 K0
  clear f1
  rw [md_8]
  generalize rBN (M 135) (M 133 3) 1 (M 133 7) 0 = q1 at K1 K0 b1 hw
  have n1 : mfr M (fx_up (md M q1.2.1 q1.1) 133 17 q1.1) := mfr_up (by omega) (mfr_md (mfr_rf M))
  have n2 : (fx_up (md M q1.2.1 q1.1) 133 17 q1.1) 133 7 = q1.2.1 := by rw [fx_up_nk (by decide), md_7]
  have n3 : (fx_up (md M q1.2.1 q1.1) 133 17 q1.1) 133 17 = q1.1 := fx_up_self _ _ _ _
  have n4 : ms_at (fx_up (md M q1.2.1 q1.1) 133 17 q1.1) := ms_up (ms_md h (by omega)) (by decide) (by omega)
  have n5 : (fx_up (md M q1.2.1 q1.1) 133 17 q1.1) 135 = M 135 := by
    funext j
    rw [fx_up_na (by decide), md_g.1]
  have n6 : (fx_up (md M q1.2.1 q1.1) 133 17 q1.1) 133 3 = M 133 3 := by rw [fx_up_nk (by decide), md_g.2]
  generalize fx_up (md M q1.2.1 q1.1) 133 17 q1.1 = N at n1 n2 n3 n4 n5 n6
  have b2 := rBN_b (g := M 135) (e := M 133 3) (m := 1) (p := q1.2.1) (w := 0) (by omega) (by omega)
  have f2 : (rBN (M 135) (M 133 3) 1 q1.2.1 0).2.2 = 1 → ∀ M', mfr M M' → M' 133 7 = (rBN (M 135) (M 133 3) 1 q1.2.1 0).2.1 → Q (some (jI 0)) M' := fun hw M' m1 m2 => by
    rw [hw, rBN_w] at K0
    exact K0 rfl M' m1 m2
  rw [← n5, ← n6, ← n2] at f2 K1 K0 b2
  refine sp_bd1 (S := fun v M1 => wp kc (d + 3) 226 39 [some (jR 133)] (v.toList ++ []) M1 Q) n4 (fun hw M1 e => s226_32 ⟨i01.1, fun _ => f2 hw _ (by rw [e]; exact mfr_md n1) (by rw [e, md_7]), fun h => absurd rfl h⟩) (fun M1 hz => s226_32 ⟨i01.2, fun h => by omega, fun _ => hz⟩) (fun hw M1 e => s226_39 ⟨i01.1, fun h => absurd rfl h, fun _ => f2 hw _ (by rw [e]; exact mfr_md n1) (by rw [e, md_7])⟩) (fun hw2 => s226_39 ⟨i01.2, fun _ => ?_, fun h => by omega⟩)
  rw [hw2] at K1 K0
  clear f2
  rw [md_8]
  generalize rBN (N 135) (N 133 3) 1 (N 133 7) 0 = q2 at K1 K0 b2 hw2
  have m1 : mfr M (fx_up (md N q2.2.1 q2.1) 133 18 q2.1) := mfr_up (by omega) (mfr_md n1)
  have m2 : (fx_up (md N q2.2.1 q2.1) 133 18 q2.1) 133 7 = q2.2.1 := by rw [fx_up_nk (by decide), md_7]
  have m3 : (fx_up (md N q2.2.1 q2.1) 133 18 q2.1) 133 18 = q2.1 := fx_up_self _ _ _ _
  have m3' : (fx_up (md N q2.2.1 q2.1) 133 18 q2.1) 133 17 = q1.1 := by rw [fx_up_nk (by decide), md_ne (by omega), n3]
  have m4 : ms_at (fx_up (md N q2.2.1 q2.1) 133 18 q2.1) := ms_up (ms_md n4 (by omega)) (by decide) (by omega)
  have m5 : (fx_up (md N q2.2.1 q2.1) 133 18 q2.1) 135 = N 135 := by
    funext j
    rw [fx_up_na (by decide), md_g.1]
  have m6 : (fx_up (md N q2.2.1 q2.1) 133 18 q2.1) 133 3 = N 133 3 := by rw [fx_up_nk (by decide), md_g.2]
  generalize fx_up (md N q2.2.1 q2.1) 133 18 q2.1 = P at m1 m2 m3 m3' m4 m5 m6
  rw [← m5, ← m6, ← m2] at K1 K0
  refine sp_bd1 (S := fun v M1 => wp kc (d + 3) 226 65 [some (jR 133)] (v.toList ++ []) M1 Q) m4 (fun hw M1 e => s226_58 ⟨i01.1, fun _ => K0 hw _ (by rw [e]; exact mfr_md m1) (by rw [e, md_7]), fun h => absurd rfl h⟩) (fun M1 hz => s226_58 ⟨i01.2, fun h => by omega, fun _ => hz⟩) (fun hw M1 e => s226_65 ⟨i01.1, fun h => absurd rfl h, fun _ => K0 hw _ (by rw [e]; exact mfr_md m1) (by rw [e, md_7])⟩) (fun hw3 => s226_65 ⟨i01.2, fun _ => K1 hw3 _ (mfr_up (by omega) (mfr_md m1)) ?_ ?_ ?_ ?_, fun h => by omega⟩)
  · rw [fx_up_nk (by decide), md_7]
  · rw [fx_up_nk (by decide), md_ne (by omega), m3']
  · rw [fx_up_nk (by decide), md_ne (by omega), m3]
  · rw [fx_up_self, md_8]
end MT
