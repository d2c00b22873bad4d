/-! Lines that were read are lines. -/
theorem rLn_K {g : Int → Int} {e p : Int} (h : p ≤ e) (h0 : (rLn g e p 0).2.2 = 0) : lnK (rLn g e p 0).1 := by
  have a := rKa_b (g := g) (w := 0) h
  have b := rKb_b (g := g) (w := 0) h
  have c := rKc_b (g := g) (w := 0) h
  have d := rKd_b (g := g) (w := 0) h
  have hd : (rKd g e p 0).2.2 = 0 := by
    by_cases hne : (rKd g e p 0).2.2 = 0
    · exact hne
    · have e1 : (rLn g e p 0).2.2 = 1 := by
        show (rT g e 59 (rKd g e p 0).2.1 (rKd g e p 0).2.2).2 = 1
        rw [show (rKd g e p 0).2.2 = 1 by omega, rT_w1]
      omega
  have hc : (rKc g e p 0).2.2 = 0 := by
    by_cases hne : (rKc g e p 0).2.2 = 0
    · exact hne
    · have e1 : (rKd g e p 0).2.2 = 1 := by
        show (rLs g e _ (rKc g e p 0).2.1 (rKc g e p 0).2.2).2.2 = 1
        rw [show (rKc g e p 0).2.2 = 1 by omega, rLs_w1]
      omega
  have hb : (rKb g e p 0).2.2 = 0 := by
    by_cases hne : (rKb g e p 0).2.2 = 0
    · exact hne
    · have e0 : (rKb g e p 0).2.2 = 1 := by omega
      have e1 : (rKc g e p 0).2.2 = 1 := by
        unfold rKc
        split
        · unfold rBN
          rw [e0, rT_w1, rN_w1]
        · exact e0
      omega
  have ha : (rKa g e p 0).2.2 = 0 := by
    by_cases hne : (rKa g e p 0).2.2 = 0
    · exact hne
    · have e0 : (rKa g e p 0).2.2 = 1 := by omega
      have e1 : (rKb g e p 0).2.2 = 1 := by
        unfold rKb
        split
        · rw [e0, rN_w1]
        · exact e0
      omega
  have hk : 0 ≤ (rKa g e p 0).1 ∧ (rKa g e p 0).1 ≤ 4 := by
    unfold rKa at ha ⊢
    rw [rC_L] at ha ⊢
    by_cases hpe : p < e
    · rw [if_pos hpe] at ha ⊢
      by_cases h1 : g p = 103
      · rw [if_pos h1]
        exact ⟨by omega, by omega⟩
      rw [if_neg h1] at ha ⊢
      by_cases h2 : g p = 114
      · rw [if_pos h2]
        exact ⟨by omega, by omega⟩
      rw [if_neg h2] at ha ⊢
      by_cases h3 : g p = 119
      · rw [if_pos h3]
        exact ⟨by omega, by omega⟩
      rw [if_neg h3] at ha ⊢
      by_cases h4 : g p = 117
      · rw [if_pos h4]
        exact ⟨by omega, by omega⟩
      rw [if_neg h4] at ha ⊢
      by_cases h5 : g p = 98
      · rw [if_pos h5]
        exact ⟨by omega, by omega⟩
      rw [if_neg h5] at ha
      simp at ha
    · rw [if_neg hpe] at ha
      simp at ha
  exact ⟨hk.1, hk.2, b.2.2.2.2.1, b.2.2.2.2.2, c.2.2.2.2.1, c.2.2.2.2.2, d.2.2.2.2⟩
theorem rPf_K {g : Int → Int} {e : Int} : ∀ (f : Nat) (p : Int), p ≤ e → (rPf g e f p).2.2 = 0 → ∀ x ∈ (rPf g e f p).1, lnK x
  | 0, p, _, _ => fun x hx => by
    rw [rPf] at hx
    cases hx
  | f + 1, p, h, h0 => fun x hx => by
    have lb := rLn_b (g := g) (w := 0) h
    rw [rPf] at h0 hx
    split at h0
    · next hc =>
      rw [if_pos hc] at hx
      rcases List.mem_cons.mp hx with e1 | e1
      · rw [e1]
        exact rLn_K h hc.1
      · exact rPf_K f _ lb.2.1 h0 x e1
    · next hc =>
      rw [if_neg hc] at hx
      rw [List.mem_singleton.mp hx]
      exact rLn_K h h0
theorem rPf_1 {g : Int → Int} {e p : Int} {f : Nat} : 1 ≤ (rPf g e (f + 1) p).1.length := by
  rw [rPf]
  split
  · rw [List.length_cons]
    omega
  · exact Nat.le_refl _
