/-! REQUESTS, the reference: arguments. -/
theorem md_A {M : fx_M} {p v : Int} : mA M (md M p v) := fun b j b1 b2 => md_ne (by omega)
section MRD
variable {kc : List va_E} {d : Nat} {M : fx_M} {R : Option fx_V → fx_M → Prop} {Q : Option fx_V → fx_M → Prop}
theorem ma_n3 {v : Int} (hv : v = 7 ∨ v = 21 ∨ v = 23 ∨ v = 28 ∨ v = 31 ∨ v = 41) (h : ms_at M) (h0 : ∀ N, mA M N → N 133 7 = (rBN (M 135) (M 133 3) 3 (M 133 7) 0).2.1 → (rBN (M 135) (M 133 3) 3 (M 133 7) 0).2.2 = 1 → R (some (jI 0)) N) (h1 : ∀ N, mA M N → N 133 7 = (rBN (M 135) (M 133 3) 3 (M 133 7) 0).2.1 → (rBN (M 135) (M 133 3) 3 (M 133 7) 0).2.2 = 0 → N 133 8 = (rBN (M 135) (M 133 3) 3 (M 133 7) 0).1 → R (some (jI 1)) N) : wc kc (d + 19) 225 [jR 133, jI v] M R := by
  have hp := ms_p h
  have nb := rBN_b (g := M 135) (e := M 133 3) (m := 3) (p := M 133 7) (w := 0) (by omega) (by omega)
  have X : wc kc (d + 18) 236 [jR 133] M (fun v M1 => wp kc (d + 19) 225 250 [none, none] (v.toList ++ []) M1 R) := by
    refine sp_scanBlankNumber (d := d + 13) h (s225_250 ⟨⟨by omega, by omega⟩, ?_⟩)
    generalize rBN (M 135) (M 133 3) 3 (M 133 7) 0 = z at h0 h1 nb ⊢
    rcases (show z.2.2 = 0 ∨ z.2.2 = 1 by omega) with e | e
    · rw [e, if_pos rfl]
      exact h1 _ md_A (md_7 _ _ _) e (md_8 _ _ _)
    · rw [e, if_neg (by decide)]
      exact h0 _ md_A (md_7 _ _ _) e
  exact s225 ⟨⟨by omega, by omega⟩, fun h => by omega, fun h => by omega, fun h => by omega, fun h => by omega, fun h => by omega, fun h => by omega, fun h => by omega, fun _ => X, fun h => by omega, fun h => by omega, fun h => by omega, fun h => by omega, fun h => by omega, fun h => by omega, fun h => by omega, fun h => by omega, fun h => by omega, fun h => by omega, fun h => by omega, fun h => by omega, fun h => by omega, fun _ => X, fun h => by omega, fun _ => X, fun h => by omega, fun h => by omega, fun h => by omega, fun h => by omega, fun _ => X, fun h => by omega, fun h => by omega, fun _ => X, fun h => by omega, fun h => by omega, fun h => by omega, fun h => by omega, fun h => by omega, fun h => by omega, fun h => by omega, fun h => by omega, fun h => by omega, fun _ => X, fun h => by omega, fun h => by omega, fun h => by omega, fun h => by omega⟩
theorem ma_n6 (h : ms_at M) (h0 : ∀ N, mA M N → N 133 7 = (rBN (M 135) (M 133 3) 6 (M 133 7) 0).2.1 → (rBN (M 135) (M 133 3) 6 (M 133 7) 0).2.2 = 1 → R (some (jI 0)) N) (h1 : ∀ N, mA M N → N 133 7 = (rBN (M 135) (M 133 3) 6 (M 133 7) 0).2.1 → (rBN (M 135) (M 133 3) 6 (M 133 7) 0).2.2 = 0 → N 133 8 = (rBN (M 135) (M 133 3) 6 (M 133 7) 0).1 → R (some (jI 1)) N) : wc kc (d + 19) 225 [jR 133, jI 9] M R := by
  have hp := ms_p h
  have tb := rT_b (g := M 135) (e := M 133 3) (c := 32) (p := M 133 7) (w := 0) (by omega)
  have X : wc kc (d + 18) 227 [jR 133, jI 32] M (fun v M1 => wp kc (d + 19) 225 257 [some (jR 133), none] (v.toList ++ []) M1 R) := by
    refine sp_isByteR (d := d + 16) h ⟨by omega, by omega⟩ (s225_257 ?_)
    have er : rBN (M 135) (M 133 3) 6 (M 133 7) 0 = rN (M 135) (M 133 3) 6 (rT (M 135) (M 133 3) 32 (M 133 7) 0).1 (rT (M 135) (M 133 3) 32 (M 133 7) 0).2 := rfl
    rw [er] at h0 h1
    generalize rT (M 135) (M 133 3) 32 (M 133 7) 0 = t at h0 h1 tb ⊢
    rcases (show t.2 = 0 ∨ t.2 = 1 by omega) with e | e
    · rw [e] at h0 h1 ⊢
      have hm := ms_md (p := t.1) (v := M 133 8) h ⟨by omega, by omega⟩
      refine ⟨⟨by omega, by omega⟩, fun h => absurd h (by decide), fun _ => ?_⟩
      refine sp_scanDigits (m := 6) (d := d + 15) hm ⟨by omega, by omega⟩ (s225_266 ?_)
      rw [md_g.1, md_g.2, md_7, md_8, md_md]
      have nb := rN_b (g := M 135) (e := M 133 3) (m := 6) (p := t.1) (w := 0) (by omega) (by omega)
      generalize rN (M 135) (M 133 3) 6 t.1 0 = z at h0 h1 nb ⊢
      rcases (show z.2.2 = 0 ∨ z.2.2 = 1 by omega) with e2 | e2
      · rw [e2, if_pos rfl]
        exact ⟨⟨by omega, by omega⟩, by decide, h1 _ md_A (md_7 _ _ _) e2 (md_8 _ _ _)⟩
      · rw [e2]
        exact ⟨⟨by omega, by omega⟩, by decide, h0 _ md_A (md_7 _ _ _) e2⟩
    · rw [e, rN_w] at h0
      rw [e]
      exact ⟨⟨by omega, by omega⟩, fun _ => h0 _ md_A (md_7 _ _ _) rfl, fun h => absurd rfl h⟩
  exact s225 ⟨⟨by omega, by omega⟩, fun h => by omega, fun h => by omega, fun h => by omega, fun h => by omega, fun h => by omega, fun h => by omega, fun h => by omega, fun h => by omega, fun h => by omega, fun _ => X, fun h => by omega, fun h => by omega, fun h => by omega, fun h => by omega, fun h => by omega, fun h => by omega, fun h => by omega, fun h => by omega, fun h => by omega, fun h => by omega, fun h => by omega, fun h => by omega, fun h => by omega, fun h => by omega, fun h => by omega, fun h => by omega, fun h => by omega, fun h => by omega, fun h => by omega, fun h => by omega, fun h => by omega, fun h => by omega, fun h => by omega, fun h => by omega, fun h => by omega, fun h => by omega, fun h => by omega, fun h => by omega, fun h => by omega, fun h => by omega, fun h => by omega, fun h => by omega, fun h => by omega, fun h => by omega, fun h => by omega, fun h => by omega⟩
theorem ma_n1 (h : ms_at M) (h0 : ∀ N, mA M N → N 133 7 = (rBN (M 135) (M 133 3) 1 (M 133 7) 0).2.1 → (rBN (M 135) (M 133 3) 1 (M 133 7) 0).2.2 = 1 → R (some (jI 0)) N) (h1 : ∀ N, mA M N → N 133 7 = (rBN (M 135) (M 133 3) 1 (M 133 7) 0).2.1 → (rBN (M 135) (M 133 3) 1 (M 133 7) 0).2.2 = 0 → N 133 8 = (rBN (M 135) (M 133 3) 1 (M 133 7) 0).1 → R (some (jI 1)) N) : wc kc (d + 19) 225 [jR 133, jI 25] M R := by
  have hp := ms_p h
  have tb := rT_b (g := M 135) (e := M 133 3) (c := 32) (p := M 133 7) (w := 0) (by omega)
  have X : wc kc (d + 18) 227 [jR 133, jI 32] M (fun v M1 => wp kc (d + 19) 225 281 [some (jR 133), none] (v.toList ++ []) M1 R) := by
    refine sp_isByteR (d := d + 16) h ⟨by omega, by omega⟩ (s225_281 ?_)
    have er : rBN (M 135) (M 133 3) 1 (M 133 7) 0 = rN (M 135) (M 133 3) 1 (rT (M 135) (M 133 3) 32 (M 133 7) 0).1 (rT (M 135) (M 133 3) 32 (M 133 7) 0).2 := rfl
    rw [er] at h0 h1
    generalize rT (M 135) (M 133 3) 32 (M 133 7) 0 = t at h0 h1 tb ⊢
    rcases (show t.2 = 0 ∨ t.2 = 1 by omega) with e | e
    · rw [e] at h0 h1 ⊢
      have hm := ms_md (p := t.1) (v := M 133 8) h ⟨by omega, by omega⟩
      refine ⟨⟨by omega, by omega⟩, fun h => absurd h (by decide), fun _ => ?_⟩
      refine sp_scanDigit (d := d + 16) hm (s225_288 ?_)
      rw [md_g.1, md_g.2, md_7, md_8, md_md]
      have nb := rN_b (g := M 135) (e := M 133 3) (m := 1) (p := t.1) (w := 0) (by omega) (by omega)
      generalize rN (M 135) (M 133 3) 1 t.1 0 = z at h0 h1 nb ⊢
      rcases (show z.2.2 = 0 ∨ z.2.2 = 1 by omega) with e2 | e2
      · rw [e2, if_pos rfl]
        exact ⟨⟨by omega, by omega⟩, by decide, h1 _ md_A (md_7 _ _ _) e2 (md_8 _ _ _)⟩
      · rw [e2]
        exact ⟨⟨by omega, by omega⟩, by decide, h0 _ md_A (md_7 _ _ _) e2⟩
    · rw [e, rN_w] at h0
      rw [e]
      exact ⟨⟨by omega, by omega⟩, fun _ => h0 _ md_A (md_7 _ _ _) rfl, fun h => absurd rfl h⟩
  exact s225 ⟨⟨by omega, by omega⟩, fun h => by omega, fun h => by omega, fun h => by omega, fun h => by omega, fun h => by omega, fun h => by omega, fun h => by omega, fun h => by omega, fun h => by omega, fun h => by omega, fun h => by omega, fun h => by omega, fun h => by omega, fun h => by omega, fun h => by omega, fun h => by omega, fun h => by omega, fun h => by omega, fun h => by omega, fun h => by omega, fun h => by omega, fun h => by omega, fun h => by omega, fun h => by omega, fun h => by omega, fun _ => X, fun h => by omega, fun h => by omega, fun h => by omega, fun h => by omega, fun h => by omega, fun h => by omega, fun h => by omega, fun h => by omega, fun h => by omega, fun h => by omega, fun h => by omega, fun h => by omega, fun h => by omega, fun h => by omega, fun h => by omega, fun h => by omega, fun h => by omega, fun h => by omega, fun h => by omega, fun h => by omega⟩
theorem ma_cs {v : Int} (hv : v = 3 ∨ v = 26) (h : ms_at M) (h0 : ∀ N, mA M N → N 133 7 = (rBS (M 135) (M 133 3) (rBN (M 135) (M 133 3) 3 (M 133 7) 0).2.1 (rBN (M 135) (M 133 3) 3 (M 133 7) 0).2.2).2.1 → (rBS (M 135) (M 133 3) (rBN (M 135) (M 133 3) 3 (M 133 7) 0).2.1 (rBN (M 135) (M 133 3) 3 (M 133 7) 0).2.2).2.2 = 1 → R (some (jI 0)) N) (h1 : ∀ N, mA M N → N 133 7 = (rBS (M 135) (M 133 3) (rBN (M 135) (M 133 3) 3 (M 133 7) 0).2.1 (rBN (M 135) (M 133 3) 3 (M 133 7) 0).2.2).2.1 → (rBS (M 135) (M 133 3) (rBN (M 135) (M 133 3) 3 (M 133 7) 0).2.1 (rBN (M 135) (M 133 3) 3 (M 133 7) 0).2.2).2.2 = 0 → N 133 20 = (rBN (M 135) (M 133 3) 3 (M 133 7) 0).1 → N 133 8 = (rBS (M 135) (M 133 3) (rBN (M 135) (M 133 3) 3 (M 133 7) 0).2.1 (rBN (M 135) (M 133 3) 3 (M 133 7) 0).2.2).1 → R (some (jI 1)) N) : wc kc (d + 19) 225 [jR 133, jI v] M R := by
  have X : wc kc (d + 18) 235 [jR 133, jI 1] M (fun v M1 => wp kc (d + 19) 225 216 [none, none] (v.toList ++ []) M1 R) := by
    refine sp_scanCellSym (d := d + 12) h (fun e N m1 m2 f0 f1 => s225_216 ⟨⟨by omega, by omega⟩, h1 N (mA_fr m1) m2 e f0 f1⟩) (fun e N m1 m2 => s225_216 ⟨⟨by omega, by omega⟩, h0 N (mA_fr m1) m2 e⟩)
  exact s225 ⟨⟨by omega, by omega⟩, fun h => by omega, fun h => by omega, fun h => by omega, fun _ => X, fun h => by omega, fun h => by omega, fun h => by omega, fun h => by omega, fun h => by omega, fun h => by omega, fun h => by omega, fun h => by omega, fun h => by omega, fun h => by omega, fun h => by omega, fun h => by omega, fun h => by omega, fun h => by omega, fun h => by omega, fun h => by omega, fun h => by omega, fun h => by omega, fun h => by omega, fun h => by omega, fun h => by omega, fun h => by omega, fun _ => X, fun h => by omega, fun h => by omega, fun h => by omega, fun h => by omega, fun h => by omega, fun h => by omega, fun h => by omega, fun h => by omega, fun h => by omega, fun h => by omega, fun h => by omega, fun h => by omega, fun h => by omega, fun h => by omega, fun h => by omega, fun h => by omega, fun h => by omega, fun h => by omega, fun h => by omega⟩
theorem ma_cd {v : Int} (hv : v = 19 ∨ v = 30) (h : ms_at M) (h0 : ∀ N, mA M N → N 133 7 = (rBN (M 135) (M 133 3) 1 (rBN (M 135) (M 133 3) 3 (M 133 7) 0).2.1 (rBN (M 135) (M 133 3) 3 (M 133 7) 0).2.2).2.1 → (rBN (M 135) (M 133 3) 1 (rBN (M 135) (M 133 3) 3 (M 133 7) 0).2.1 (rBN (M 135) (M 133 3) 3 (M 133 7) 0).2.2).2.2 = 1 → R (some (jI 0)) N) (h1 : ∀ N, mA M N → N 133 7 = (rBN (M 135) (M 133 3) 1 (rBN (M 135) (M 133 3) 3 (M 133 7) 0).2.1 (rBN (M 135) (M 133 3) 3 (M 133 7) 0).2.2).2.1 → (rBN (M 135) (M 133 3) 1 (rBN (M 135) (M 133 3) 3 (M 133 7) 0).2.1 (rBN (M 135) (M 133 3) 3 (M 133 7) 0).2.2).2.2 = 0 → N 133 20 = (rBN (M 135) (M 133 3) 3 (M 133 7) 0).1 → N 133 8 = (rBN (M 135) (M 133 3) 1 (rBN (M 135) (M 133 3) 3 (M 133 7) 0).2.1 (rBN (M 135) (M 133 3) 3 (M 133 7) 0).2.2).1 → R (some (jI 1)) N) : wc kc (d + 19) 225 [jR 133, jI v] M R := by
  have X : wc kc (d + 18) 235 [jR 133, jI 0] M (fun v M1 => wp kc (d + 19) 225 222 [none, none] (v.toList ++ []) M1 R) := by
    refine sp_scanCellDig (d := d + 12) h (fun e N m1 m2 f0 f1 => s225_222 ⟨⟨by omega, by omega⟩, h1 N (mA_fr m1) m2 e f0 f1⟩) (fun e N m1 m2 => s225_222 ⟨⟨by omega, by omega⟩, h0 N (mA_fr m1) m2 e⟩)
  exact s225 ⟨⟨by omega, by omega⟩, fun h => by omega, fun h => by omega, fun h => by omega, fun h => by omega, fun h => by omega, fun h => by omega, fun h => by omega, fun h => by omega, fun h => by omega, fun h => by omega, fun h => by omega, fun h => by omega, fun h => by omega, fun h => by omega, fun h => by omega, fun h => by omega, fun h => by omega, fun h => by omega, fun h => by omega, fun _ => X, fun h => by omega, fun h => by omega, fun h => by omega, fun h => by omega, fun h => by omega, fun h => by omega, fun h => by omega, fun h => by omega, fun h => by omega, fun h => by omega, fun _ => X, fun h => by omega, fun h => by omega, fun h => by omega, fun h => by omega, fun h => by omega, fun h => by omega, fun h => by omega, fun h => by omega, fun h => by omega, fun h => by omega, fun h => by omega, fun h => by omega, fun h => by omega, fun h => by omega, fun h => by omega⟩
theorem ma_sz (h : ms_at M) (h0 : ∀ N, mA M N → N 133 7 = (rZ3 (M 135) (M 133 3) (M 133 7) 0).2.1 → (rZ3 (M 135) (M 133 3) (M 133 7) 0).2.2 = 1 → R (some (jI 0)) N) (h1 : ∀ N, mA M N → N 133 7 = (rZ3 (M 135) (M 133 3) (M 133 7) 0).2.1 → (rZ3 (M 135) (M 133 3) (M 133 7) 0).2.2 = 0 → N 133 17 = (rZ1 (M 135) (M 133 3) (M 133 7) 0).1 → N 133 18 = (rZ2 (M 135) (M 133 3) (M 133 7) 0).1 → N 133 19 = (rZ3 (M 135) (M 133 3) (M 133 7) 0).1 → R (some (jI 1)) N) : wc kc (d + 19) 225 [jR 133, jI 0] M R := by
  have X : wc kc (d + 18) 226 [jR 133] M (fun v M1 => wp kc (d + 19) 225 200 [none, none] (v.toList ++ []) M1 R) := by
    refine sp_scanSizes (d := d + 15) h (fun e N m1 m2 f0 f1 f2 => s225_200 ⟨⟨by omega, by omega⟩, h1 N (mA_fr m1) m2 e f0 f1 f2⟩) (fun e N m1 m2 => s225_200 ⟨⟨by omega, by omega⟩, h0 N (mA_fr m1) m2 e⟩)
  exact s225 ⟨⟨by omega, by omega⟩, fun _ => X, fun h => by omega, fun h => by omega, fun h => by omega, fun h => by omega, fun h => by omega, fun h => by omega, fun h => by omega, fun h => by omega, fun h => by omega, fun h => by omega, fun h => by omega, fun h => by omega, fun h => by omega, fun h => by omega, fun h => by omega, fun h => by omega, fun h => by omega, fun h => by omega, fun h => by omega, fun h => by omega, fun h => by omega, fun h => by omega, fun h => by omega, fun h => by omega, fun h => by omega, fun h => by omega, fun h => by omega, fun h => by omega, fun h => by omega, fun h => by omega, fun h => by omega, fun h => by omega, fun h => by omega, fun h => by omega, fun h => by omega, fun h => by omega, fun h => by omega, fun h => by omega, fun h => by omega, fun h => by omega, fun h => by omega, fun h => by omega, fun h => by omega, fun h => by omega, fun h => by omega⟩
theorem ma_rule (h : ms_at M) (h0 : ∀ N, mA M N → N 133 7 = (rRu (M 135) (M 133 3) (M 133 7) 0).2.1 → (rRu (M 135) (M 133 3) (M 133 7) 0).2.2 = 1 → R (some (jI 0)) N) (h1 : ∀ N, mA M N → N 133 7 = (rRu (M 135) (M 133 3) (M 133 7) 0).2.1 → (rRu (M 135) (M 133 3) (M 133 7) 0).2.2 = 0 → 0 ≤ (rK (M 135) (M 133 3) bsK (M 133 7) 0).1 → (rK (M 135) (M 133 3) bsK (M 133 7) 0).1 < 8 → N 133 10 = piK.getD (rK (M 135) (M 133 3) bsK (M 133 7) 0).1.toNat 0 → N 133 11 = (rK (M 135) (M 133 3) bsK (M 133 7) 0).2.1 → N 133 12 = (rRu (M 135) (M 133 3) (M 133 7) 0).1.length → (∀ (i : Nat) (v : Int), (rRu (M 135) (M 133 3) (M 133 7) 0).1[i]? = some v → i < 4 → N 137 i = v) → R (some (jI 1)) N) : wc kc (d + 19) 225 [jR 133, jI 1] M R := by
  have X : wc kc (d + 18) 230 [jR 133] M (fun v M1 => wp kc (d + 19) 225 205 [none, none] (v.toList ++ []) M1 R) := by
    refine sp_scanRule (d := d + 12) h (fun e k0 k8 N m1 m2 m3 m4 m5 m6 => s225_205 ⟨⟨by omega, by omega⟩, h1 N (mA_fr m1) m2 e k0 k8 m3 m4 m5 m6⟩) (fun e N m1 m2 => s225_205 ⟨⟨by omega, by omega⟩, h0 N (mA_fr m1) m2 e⟩)
  exact s225 ⟨⟨by omega, by omega⟩, fun h => by omega, fun _ => X, fun h => by omega, fun h => by omega, fun h => by omega, fun h => by omega, fun h => by omega, fun h => by omega, fun h => by omega, fun h => by omega, fun h => by omega, fun h => by omega, fun h => by omega, fun h => by omega, fun h => by omega, fun h => by omega, fun h => by omega, fun h => by omega, fun h => by omega, fun h => by omega, fun h => by omega, fun h => by omega, fun h => by omega, fun h => by omega, fun h => by omega, fun h => by omega, fun h => by omega, fun h => by omega, fun h => by omega, fun h => by omega, fun h => by omega, fun h => by omega, fun h => by omega, fun h => by omega, fun h => by omega, fun h => by omega, fun h => by omega, fun h => by omega, fun h => by omega, fun h => by omega, fun h => by omega, fun h => by omega, fun h => by omega, fun h => by omega, fun h => by omega, fun h => by omega⟩
theorem ma_each (h : ms_at M) (h0 : ∀ N, mA M N → N 133 7 = (rEa (M 135) (M 133 3) (M 133 7)).2.2.1 → (rEa (M 135) (M 133 3) (M 133 7)).2.2.2 = 1 → R (some (jI 0)) N) (h1 : ∀ N, mA M N → N 133 7 = (rEa (M 135) (M 133 3) (M 133 7)).2.2.1 → (rEa (M 135) (M 133 3) (M 133 7)).2.2.2 = 0 → 0 ≤ (rSd (M 135) (M 133 3) (M 133 7) 0).1 → (rSd (M 135) (M 133 3) (M 133 7) 0).1 < 3 → 0 ≤ (rEa (M 135) (M 133 3) (M 133 7)).1 → (rEa (M 135) (M 133 3) (M 133 7)).1 < 8 → N 133 14 = piS.getD (rSd (M 135) (M 133 3) (M 133 7) 0).1.toNat 0 → N 133 10 = piK.getD (rEa (M 135) (M 133 3) (M 133 7)).1.toNat 0 → N 133 11 = (rEa (M 135) (M 133 3) (M 133 7)).2.1 → R (some (jI 1)) N) : wc kc (d + 19) 225 [jR 133, jI 2] M R := by
  have X : wc kc (d + 18) 234 [jR 133] M (fun v M1 => wp kc (d + 19) 225 210 [none, none] (v.toList ++ []) M1 R) := by
    refine sp_scanEach (d := d + 12) h (fun e s0 s3 k0 k8 N m1 m2 m3 m4 m5 => s225_210 ⟨⟨by omega, by omega⟩, h1 N (mA_fr m1) m2 e s0 s3 k0 k8 m3 m4 m5⟩) (fun e N m1 m2 => s225_210 ⟨⟨by omega, by omega⟩, h0 N (mA_fr m1) m2 e⟩)
  exact s225 ⟨⟨by omega, by omega⟩, fun h => by omega, fun h => by omega, fun _ => X, fun h => by omega, fun h => by omega, fun h => by omega, fun h => by omega, fun h => by omega, fun h => by omega, fun h => by omega, fun h => by omega, fun h => by omega, fun h => by omega, fun h => by omega, fun h => by omega, fun h => by omega, fun h => by omega, fun h => by omega, fun h => by omega, fun h => by omega, fun h => by omega, fun h => by omega, fun h => by omega, fun h => by omega, fun h => by omega, fun h => by omega, fun h => by omega, fun h => by omega, fun h => by omega, fun h => by omega, fun h => by omega, fun h => by omega, fun h => by omega, fun h => by omega, fun h => by omega, fun h => by omega, fun h => by omega, fun h => by omega, fun h => by omega, fun h => by omega, fun h => by omega, fun h => by omega, fun h => by omega, fun h => by omega, fun h => by omega, fun h => by omega⟩
theorem ma_text (h : ms_at M) (h0 : ∀ N, mA M N → N 133 7 = (rLo (M 135) (M 133 3) (M 133 7) (z_new 1 1 1)).1 → (rLo (M 135) (M 133 3) (M 133 7) (z_new 1 1 1)).2.1 = 1 → R (some (jI 0)) N) (h1 : ∀ N, mA M N → N 133 7 = (rLo (M 135) (M 133 3) (M 133 7) (z_new 1 1 1)).1 → (rLo (M 135) (M 133 3) (M 133 7) (z_new 1 1 1)).2.1 = 0 → R (some (jI 1)) N) : wc kc (d + 19) 225 [jR 133, jI 6] M R := by
  have hp := ms_p h
  have tb := rT_b (g := M 135) (e := M 133 3) (c := 32) (p := M 133 7) (w := 0) (by omega)
  have X : wc kc (d + 18) 227 [jR 133, jI 32] M (fun v M1 => wp kc (d + 19) 225 229 [some (jR 133), none] (v.toList ++ []) M1 R) := by
    refine sp_isByteR (d := d + 16) h ⟨by omega, by omega⟩ (s225_229 ?_)
    unfold rLo at h0 h1
    generalize rT (M 135) (M 133 3) 32 (M 133 7) 0 = t at h0 h1 tb ⊢
    rcases (show t.2 = 0 ∨ t.2 = 1 by omega) with e | e
    · rw [e] at h0 h1 ⊢
      have hm := ms_md (p := t.1) (v := M 133 8) h ⟨by omega, by omega⟩
      refine ⟨⟨by omega, by omega⟩, fun h => absurd h (by decide), fun _ => ?_⟩
      have pw := mText_pw (u := -1) (g := M 135) (e := M 133 3) (p := t.1) (rf := 0) (Z := z_new 1 1 1) (Z' := z_new 1 1 1)
      refine sp_scanTextG (d := d + 10) (Z := z_new 1 1 1) (u := -1) (by omega) (by omega) (ms_up hm (by decide) (by omega)) ?_ ?_
      · rw [md_g.1, md_g.2, md_7, pw.1, pw.2]
        intro e2 N m1 m2 m3
        exact s225_237 ⟨⟨by omega, by omega⟩, by decide, h1 N (fun b j b1 b2 => by rw [m3 b j (by omega) (by omega) (by omega), md_ne (by omega)]) m2 e2⟩
      · rw [md_g.1, md_g.2, md_7, pw.1, pw.2]
        intro e2 N m1 m2 m3
        exact s225_237 ⟨⟨by omega, by omega⟩, by decide, h0 N (fun b j b1 b2 => by rw [m3 b j (by omega) (by omega) (by omega), md_ne (by omega)]) m2 e2⟩
    · rw [e] at h0 ⊢
      have w1 := rText_w1 (g := M 135) (e := M 133 3) (p := t.1) (rf := 0) (Z := z_new 1 1 1)
      exact ⟨⟨by omega, by omega⟩, fun _ => h0 _ md_A (by rw [md_7, w1.1]) w1.2, fun h => absurd rfl h⟩
  exact s225 ⟨⟨by omega, by omega⟩, fun h => by omega, fun h => by omega, fun h => by omega, fun h => by omega, fun h => by omega, fun h => by omega, fun _ => X, fun h => by omega, fun h => by omega, fun h => by omega, fun h => by omega, fun h => by omega, fun h => by omega, fun h => by omega, fun h => by omega, fun h => by omega, fun h => by omega, fun h => by omega, fun h => by omega, fun h => by omega, fun h => by omega, fun h => by omega, fun h => by omega, fun h => by omega, fun h => by omega, fun h => by omega, fun h => by omega, fun h => by omega, fun h => by omega, fun h => by omega, fun h => by omega, fun h => by omega, fun h => by omega, fun h => by omega, fun h => by omega, fun h => by omega, fun h => by omega, fun h => by omega, fun h => by omega, fun h => by omega, fun h => by omega, fun h => by omega, fun h => by omega, fun h => by omega, fun h => by omega, fun h => by omega⟩
theorem ma_name {v : Int} (hv : v = 37 ∨ v = 38 ∨ v = 39) (h : ms_at M) (h0 : ∀ N, mA M N → N 133 7 = (rBM (M 135) (M 133 3) (M 133 7) 0).1 + (rBM (M 135) (M 133 3) (M 133 7) 0).2.1 → (rBM (M 135) (M 133 3) (M 133 7) 0).2.2 = 1 → R (some (jI 0)) N) (h1 : ∀ N, mA M N → N 133 7 = (rBM (M 135) (M 133 3) (M 133 7) 0).1 + (rBM (M 135) (M 133 3) (M 133 7) 0).2.1 → (rBM (M 135) (M 133 3) (M 133 7) 0).2.2 = 0 → N 133 15 = (rBM (M 135) (M 133 3) (M 133 7) 0).1 → N 133 16 = (rBM (M 135) (M 133 3) (M 133 7) 0).2.1 → R (some (jI 1)) N) : wc kc (d + 19) 225 [jR 133, jI v] M R := by
  have hp := ms_p h
  have tb := rT_b (g := M 135) (e := M 133 3) (c := 32) (p := M 133 7) (w := 0) (by omega)
  have X : wc kc (d + 18) 227 [jR 133, jI 32] M (fun v M1 => wp kc (d + 19) 225 325 [some (jR 133), none] (v.toList ++ []) M1 R) := by
    refine sp_isByteR (d := d + 16) h ⟨by omega, by omega⟩ (s225_325 ?_)
    unfold rBM at h0 h1
    generalize rT (M 135) (M 133 3) 32 (M 133 7) 0 = t at h0 h1 tb ⊢
    rcases (show t.2 = 0 ∨ t.2 = 1 by omega) with e | e
    · rw [e] at h0 h1 ⊢
      have hm := ms_md (p := t.1) (v := M 133 8) h ⟨by omega, by omega⟩
      refine ⟨⟨by omega, by omega⟩, fun h => absurd h (by decide), fun _ => ?_⟩
      refine sp_scanName (d := d + 16) hm (s225_332 ?_)
      rw [md_g.1, md_g.2, md_7, md_8]
      have nb := rNm_b (g := M 135) (e := M 133 3) (p := t.1) (w := 0) (by omega)
      generalize rNm (M 135) (M 133 3) t.1 0 = z at h0 h1 nb ⊢
      have a : mA M (fx_up (md (fx_up (md M t.1 (M 133 8)) 133 15 t.1) (t.1 + z.1) (M 133 8)) 133 16 z.1) := fun b j b1 b2 => by rw [fx_up_ne (by omega), md_ne (by omega), fx_up_ne (by omega), md_ne (by omega)]
      have a7 : (fx_up (md (fx_up (md M t.1 (M 133 8)) 133 15 t.1) (t.1 + z.1) (M 133 8)) 133 16 z.1) 133 7 = t.1 + z.1 := by rw [fx_up_nk (by decide), md_7]
      have a15 : (fx_up (md (fx_up (md M t.1 (M 133 8)) 133 15 t.1) (t.1 + z.1) (M 133 8)) 133 16 z.1) 133 15 = t.1 := by rw [fx_up_nk (by decide), md_ne (by omega), fx_up_self]
      have a16 : (fx_up (md (fx_up (md M t.1 (M 133 8)) 133 15 t.1) (t.1 + z.1) (M 133 8)) 133 16 z.1) 133 16 = z.1 := fx_up_self ..
      rcases (show z.2 = 0 ∨ z.2 = 1 by omega) with e2 | e2
      · rw [e2]
        exact ⟨⟨by omega, by omega⟩, by decide, h1 _ a a7 e2 a15 a16⟩
      · rw [e2]
        exact ⟨⟨by omega, by omega⟩, by decide, h0 _ a a7 e2⟩
    · rw [e] at h0 ⊢
      have w1 : rNm (M 135) (M 133 3) t.1 1 = (0, 1) := rfl
      rw [w1] at h0
      exact ⟨⟨by omega, by omega⟩, fun _ => h0 _ md_A (by rw [md_7]; exact (Int.add_zero _).symm) rfl, fun h => absurd rfl h⟩
  exact s225 ⟨⟨by omega, by omega⟩, fun h => by omega, fun h => by omega, fun h => by omega, fun h => by omega, fun h => by omega, fun h => by omega, fun h => by omega, fun h => by omega, fun h => by omega, fun h => by omega, fun h => by omega, fun h => by omega, fun h => by omega, fun h => by omega, fun h => by omega, fun h => by omega, fun h => by omega, fun h => by omega, fun h => by omega, fun h => by omega, fun h => by omega, fun h => by omega, fun h => by omega, fun h => by omega, fun h => by omega, fun h => by omega, fun h => by omega, fun h => by omega, fun h => by omega, fun h => by omega, fun h => by omega, fun h => by omega, fun h => by omega, fun h => by omega, fun h => by omega, fun h => by omega, fun h => by omega, fun _ => X, fun _ => X, fun _ => X, fun h => by omega, fun h => by omega, fun h => by omega, fun h => by omega, fun h => by omega, fun h => by omega⟩
theorem ma_set (h : ms_at M) (h0 : ∀ N, mA M N → N 133 7 = (rSt (M 135) (M 133 3) (M 133 7)).2.1 → (rSt (M 135) (M 133 3) (M 133 7)).2.2 = 1 → R (some (jI 0)) N) (h1 : ∀ N, mA M N → N 133 7 = (rSt (M 135) (M 133 3) (M 133 7)).2.1 → (rSt (M 135) (M 133 3) (M 133 7)).2.2 = 0 → N 133 15 = (rBM (M 135) (M 133 3) (M 133 7) 0).1 → N 133 16 = (rBM (M 135) (M 133 3) (M 133 7) 0).2.1 → N 133 8 = (rSt (M 135) (M 133 3) (M 133 7)).1 → R (some (jI 1)) N) : wc kc (d + 19) 225 [jR 133, jI 34] M R := by
  have hp := ms_p h
  have tb := rT_b (g := M 135) (e := M 133 3) (c := 32) (p := M 133 7) (w := 0) (by omega)
  have X : wc kc (d + 18) 227 [jR 133, jI 32] M (fun v M1 => wp kc (d + 19) 225 347 [some (jR 133), none] (v.toList ++ []) M1 R) := by
    refine sp_isByteR (d := d + 16) h ⟨by omega, by omega⟩ (s225_347 ?_)
    unfold rSt rBM at h0
    unfold rSt rBM at h1
    generalize rT (M 135) (M 133 3) 32 (M 133 7) 0 = t at h0 h1 tb ⊢
    rcases (show t.2 = 0 ∨ t.2 = 1 by omega) with e | e
    · rw [e] at h0 h1 ⊢
      have hm := ms_md (p := t.1) (v := M 133 8) h ⟨by omega, by omega⟩
      refine ⟨⟨by omega, by omega⟩, fun h => absurd h (by decide), fun _ => ?_⟩
      refine sp_scanName (d := d + 16) hm (s225_354 ?_)
      rw [md_g.1, md_g.2, md_7, md_8]
      have nb := rNm_b (g := M 135) (e := M 133 3) (p := t.1) (w := 0) (by omega)
      generalize rNm (M 135) (M 133 3) t.1 0 = z at h0 h1 nb ⊢
      dsimp only at h0 h1
      generalize hN : fx_up (md (fx_up (md M t.1 (M 133 8)) 133 15 t.1) (t.1 + z.1) (M 133 8)) 133 16 z.1 = N
      have a : mA M N := fun b j b1 b2 => by rw [← hN, fx_up_ne (by omega), md_ne (by omega), fx_up_ne (by omega), md_ne (by omega)]
      have a7 : N 133 7 = t.1 + z.1 := by rw [← hN, fx_up_nk (by decide), md_7]
      have a15 : N 133 15 = t.1 := by rw [← hN, fx_up_nk (by decide), md_ne (by omega), fx_up_self]
      have a16 : N 133 16 = z.1 := by rw [← hN, fx_up_self]
      have a3 : N 133 3 = M 133 3 := a 133 3 (by omega) (by omega)
      have ag : N 135 = M 135 := funext (fun j => a 135 j (by omega) (by omega))
      have hmN : ms_at N := ms_q h (by rw [a7]; omega) a3 (fun j => a 135 j (by omega) (by omega))
      rcases (show z.2 = 0 ∨ z.2 = 1 by omega) with e2 | e2
      · rw [e2] at h0 h1 ⊢
        refine ⟨⟨by omega, by omega⟩, fun h => absurd h (by decide), fun _ => ?_⟩
        refine sp_scanBlankNumber (d := d + 13) hmN (s225_361 ?_)
        rw [ag, a3, a7]
        have bb := rBN_b (g := M 135) (e := M 133 3) (m := 3) (p := t.1 + z.1) (w := 0) (by omega) (by omega)
        generalize rBN (M 135) (M 133 3) 3 (t.1 + z.1) 0 = y at h0 h1 bb ⊢
        have c : ∀ q x, mA M (md N q x) := fun q x b j b1 b2 => by rw [md_ne (by omega), a b j b1 b2]
        rcases (show y.2.2 = 0 ∨ y.2.2 = 1 by omega) with e3 | e3
        · rw [e3, if_pos rfl]
          exact ⟨⟨by omega, by omega⟩, by decide, h1 _ (c _ _) (md_7 _ _ _) e3 (by rw [md_ne (by omega), a15]) (by rw [md_ne (by omega), a16]) (md_8 _ _ _)⟩
        · rw [e3]
          exact ⟨⟨by omega, by omega⟩, by decide, h0 _ (c _ _) (md_7 _ _ _) e3⟩
      · rw [e2, rBN_w] at h0
        rw [e2]
        exact ⟨⟨by omega, by omega⟩, fun _ => h0 N a a7 rfl, fun h => absurd rfl h⟩
    · rw [e] at h0 ⊢
      have w1 : rNm (M 135) (M 133 3) t.1 1 = (0, 1) := rfl
      rw [w1] at h0
      dsimp only at h0
      rw [rBN_w] at h0
      exact ⟨⟨by omega, by omega⟩, fun _ => h0 _ md_A (by rw [md_7]; exact (Int.add_zero _).symm) rfl, fun h => absurd rfl h⟩
  exact s225 ⟨⟨by omega, by omega⟩, fun h => by omega, fun h => by omega, fun h => by omega, fun h => by omega, fun h => by omega, fun h => by omega, fun h => by omega, fun h => by omega, fun h => by omega, fun h => by omega, fun h => by omega, fun h => by omega, fun h => by omega, fun h => by omega, fun h => by omega, fun h => by omega, fun h => by omega, fun h => by omega, fun h => by omega, fun h => by omega, fun h => by omega, fun h => by omega, fun h => by omega, fun h => by omega, fun h => by omega, fun h => by omega, fun h => by omega, fun h => by omega, fun h => by omega, fun h => by omega, fun h => by omega, fun h => by omega, fun h => by omega, fun h => by omega, fun _ => X, fun h => by omega, fun h => by omega, fun h => by omega, fun h => by omega, fun h => by omega, fun h => by omega, fun h => by omega, fun h => by omega, fun h => by omega, fun h => by omega, fun h => by omega⟩
theorem ma_proof {Z : PZ} (ho : pz_ok Z) (hz : mz M 0 Z) (h : ms_at M) (hb : (rT (M 135) (M 133 3) 32 (M 133 7) 0).2 = 1 → ∀ N, mA M N → N 133 7 = (rT (M 135) (M 133 3) 32 (M 133 7) 0).1 → R (some (jI 0)) N) (h0 : (rT (M 135) (M 133 3) 32 (M 133 7) 0).2 = 0 → ∀ N, mA M N → N 133 7 = (rCk (M 135) (M 133 3) (M 133 7)).2.1 → (rCk (M 135) (M 133 3) (M 133 7)).2.2 = 1 → R (some (jI 0)) N) (h1 : (rT (M 135) (M 133 3) 32 (M 133 7) 0).2 = 0 → ∀ N, mA M N → N 133 7 = (rCk (M 135) (M 133 3) (M 133 7)).2.1 → (rCk (M 135) (M 133 3) (M 133 7)).2.2 = 0 → mls Z N (rCk (M 135) (M 133 3) (M 133 7)).1 → R (some (jI 1)) N) : wc kc (d + 19) 225 [jR 133, jI 11] M R := by
  have hp := ms_p h
  have tb := rT_b (g := M 135) (e := M 133 3) (c := 32) (p := M 133 7) (w := 0) (by omega)
  have X : wc kc (d + 18) 227 [jR 133, jI 32] M (fun v M1 => wp kc (d + 19) 225 303 [some (jR 133), none] (v.toList ++ []) M1 R) := by
    refine sp_isByteR (d := d + 16) h ⟨by omega, by omega⟩ (s225_303 ?_)
    unfold rCk at h0 h1
    generalize rT (M 135) (M 133 3) 32 (M 133 7) 0 = t at h0 h1 hb tb ⊢
    rcases (show t.2 = 0 ∨ t.2 = 1 by omega) with e | e
    · rw [e]
      have hm := ms_md (p := t.1) (v := M 133 8) h ⟨by omega, by omega⟩
      have hz' : mz (md M t.1 (M 133 8)) 0 Z := mz_frM hz (fun b j b1 b2 => md_ne (by omega))
      refine ⟨⟨by omega, by omega⟩, fun h => absurd h (by decide), fun _ => ?_⟩
      refine sp_scanProof (d := d + 12) ho hm hz' ?_ ?_
      · rw [md_g.1, md_g.2, md_7]
        intro e2 N m1 m2 m3
        exact s225_310 ⟨⟨by omega, by omega⟩, by decide, h0 e N (fun b j b1 b2 => by rw [m1 b j (by omega) (by omega), md_ne (by omega)]) m3 e2⟩
      · rw [md_g.1, md_g.2, md_7]
        intro e2 N m1 m2 m3 m4
        exact s225_310 ⟨⟨by omega, by omega⟩, by decide, h1 e N (fun b j b1 b2 => by rw [m1 b j (by omega) (by omega), md_ne (by omega)]) m3 e2 m4⟩
    · rw [e]
      exact ⟨⟨by omega, by omega⟩, fun _ => hb e _ md_A (md_7 _ _ _), fun h => absurd rfl h⟩
  exact s225 ⟨⟨by omega, by omega⟩, fun h => by omega, fun h => by omega, fun h => by omega, fun h => by omega, fun h => by omega, fun h => by omega, fun h => by omega, fun h => by omega, fun h => by omega, fun h => by omega, fun h => by omega, fun _ => X, fun h => by omega, fun h => by omega, fun h => by omega, fun h => by omega, fun h => by omega, fun h => by omega, fun h => by omega, fun h => by omega, fun h => by omega, fun h => by omega, fun h => by omega, fun h => by omega, fun h => by omega, fun h => by omega, fun h => by omega, fun h => by omega, fun h => by omega, fun h => by omega, fun h => by omega, fun h => by omega, fun h => by omega, fun h => by omega, fun h => by omega, fun h => by omega, fun h => by omega, fun h => by omega, fun h => by omega, fun h => by omega, fun h => by omega, fun h => by omega, fun h => by omega, fun h => by omega, fun h => by omega, fun h => by omega⟩
theorem ma_book (h : ms_at M) (h35 : M 133 3 ≤ 3500) (h0 : ∀ N, mA M N → N 133 7 = (rIn (M 135) (M 133 3) (M 133 7)).2.1 → (rIn (M 135) (M 133 3) (M 133 7)).2.2 = 1 → R (some (jI 0)) N) (h1 : ∀ N, mA M N → N 133 7 = (rIn (M 135) (M 133 3) (M 133 7)).2.1 → (rIn (M 135) (M 133 3) (M 133 7)).2.2 = 0 → N 133 30 = (imA (M 135) (M 133 3) (M 133 7)).1 → N 133 31 = (rIm (M 135) (M 133 3) (M 133 7)).1.length → N 133 32 = (rIn (M 135) (M 133 3) (M 133 7)).1 → N 133 33 = (rIm (M 135) (M 133 3) (M 133 7)).2.1 → mbE N 0 (rIm (M 135) (M 133 3) (M 133 7)).1 → R (some (jI 1)) N) : wc kc (d + 19) 225 [jR 133, jI 44] M R := by
  have hp := ms_p h
  have tb := rT_b (g := M 135) (e := M 133 3) (c := 32) (p := M 133 7) (w := 0) (by omega)
  have X : wc kc (d + 18) 227 [jR 133, jI 32] M (fun v M1 => wp kc (d + 19) 225 381 [some (jR 133), none] (v.toList ++ []) M1 R) := by
    refine sp_isByteR (d := d + 16) h ⟨by omega, by omega⟩ (s225_381 ?_)
    unfold rIn rIm at h0
    unfold rIn rIm imA at h1
    generalize rT (M 135) (M 133 3) 32 (M 133 7) 0 = t at h0 h1 tb ⊢
    rcases (show t.2 = 0 ∨ t.2 = 1 by omega) with e | e
    · rw [e] at h0 h1 ⊢
      have hm := ms_md (p := t.1) (v := M 133 8) h ⟨by omega, by omega⟩
      have h3 : (md M t.1 (M 133 8)) 133 3 ≤ 3500 := by rw [md_g.2]; exact h35
      refine ⟨⟨by omega, by omega⟩, fun h => absurd h (by decide), fun _ => ?_⟩
      refine sp_scanBook (d := d + 9) (Z := z_new 1 1 1) hm h3 ?_ ?_
      · rw [md_g.1, md_g.2, md_7]
        intro e2 N m1 m2 m3 m4 m5 m6 m7 m8
        exact s225_388 ⟨⟨by omega, by omega⟩, by decide, h1 N (fun b j b1 b2 => by rw [m8 b j (by omega) (by omega) (by omega), md_ne (by omega)]) m2 e2 m3 m4 m5 m6 m7⟩
      · rw [md_g.1, md_g.2, md_7]
        intro e2 N m1 m2 m3
        exact s225_388 ⟨⟨by omega, by omega⟩, by decide, h0 N (fun b j b1 b2 => by rw [m3 b j (by omega) (by omega) (by omega), md_ne (by omega)]) m2 e2⟩
    · rw [e] at h0 ⊢
      have w1 : rBo (M 135) (M 133 3) t.1 1 (z_new 1 1 1) = ([], t.1, 1, 0, z_new 1 1 1) := by
        have c1 : rC (M 135) (M 133 3) bsB t.1 1 = (-1, t.1, 1) := rfl
        unfold rBo
        rw [c1]
        dsimp only
        rw [rBN_w]
        exact rBk_w (show (1 : Int) ≠ 0 by decide)
      rw [w1] at h0
      dsimp only at h0
      rw [rN_w] at h0
      exact ⟨⟨by omega, by omega⟩, fun _ => h0 _ md_A (md_7 _ _ _) rfl, fun h => absurd rfl h⟩
  exact s225 ⟨⟨by omega, by omega⟩, fun h => by omega, fun h => by omega, fun h => by omega, fun h => by omega, fun h => by omega, fun h => by omega, fun h => by omega, fun h => by omega, fun h => by omega, fun h => by omega, fun h => by omega, fun h => by omega, fun h => by omega, fun h => by omega, fun h => by omega, fun h => by omega, fun h => by omega, fun h => by omega, fun h => by omega, fun h => by omega, fun h => by omega, fun h => by omega, fun h => by omega, fun h => by omega, fun h => by omega, fun h => by omega, fun h => by omega, fun h => by omega, fun h => by omega, fun h => by omega, fun h => by omega, fun h => by omega, fun h => by omega, fun h => by omega, fun h => by omega, fun h => by omega, fun h => by omega, fun h => by omega, fun h => by omega, fun h => by omega, fun h => by omega, fun h => by omega, fun h => by omega, fun h => by omega, fun _ => X, fun h => by omega⟩
end MRD
