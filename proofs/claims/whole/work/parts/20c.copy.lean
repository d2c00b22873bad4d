/-! PUZZLES: copy. -/
theorem cpy_to {M : fx_M} {b a : Nat} {n j : Int} (h : 0 ≤ j ∧ j < n) : (fx_cpy M b 0 a 0 n) a j = M b j := by
  unfold fx_cpy
  rw [if_pos (by omega)]
  congr 1
  omega
theorem cpy_ne {M : fx_M} {b a c : Nat} {n j : Int} (h : c ≠ a) : (fx_cpy M b 0 a 0 n) c j = M c j := by
  unfold fx_cpy
  rw [if_neg (by omega)]
theorem puz_ne {p q : Nat} (Hp : fx_puz p) (Hq : fx_puz q) (h : p ≠ q) : p + 8 < q ∨ q + 8 < p := by
  unfold fx_puz at Hp Hq
  simp at Hp Hq
  omega
section CPY
variable {kc : List va_E} {d p q : Nat} {M : fx_M} {Q : Option fx_V → fx_M → Prop} {Z : PZ}
theorem sp_copy (Hp : fx_puz p) (Hq : fx_puz q) (hpq : p ≠ q) (hz : cz M q Z) (ho : pz_ok Z) (K : ∀ M', cz M' p Z → pfr p M M' → Q none M') : wc kc (d + 1) 72 [jR p, jR q] M Q := by
  have hd := puz_ne Hp Hq hpq
  obtain ⟨z0, z1, z2, z3, z4, z5, z6, z7, z8, zw⟩ := hz
  have h7 := ho.2.2.2.2.2.2.1
  refine s72 Hp Hq ⟨⟨by omega, by omega, by omega, by omega, by omega⟩, ⟨by omega, by omega, by omega, by omega, by omega⟩, ⟨by omega, by omega, by omega, by omega, by omega⟩, ⟨by omega, by omega, by omega, by omega, by omega⟩, ⟨by omega, by omega, by omega, by omega, by omega⟩, ⟨by omega, by omega, by omega, by omega, by omega⟩, K _ ?_ ?_⟩
  · have u : ∀ (b : Nat) (j : Int), b ≠ p → (fx_up (fx_up (fx_up (fx_up (fx_up (fx_up M p 0 (M q 0)) p 1 (M q 1)) p 2 (M q 2)) p 3 (M q 3)) p 4 (M q 4)) p 12 0) b j = M b j := fun b j hb => by
      rw [fx_up_na hb, fx_up_na hb, fx_up_na hb, fx_up_na hb, fx_up_na hb, fx_up_na hb]
    have v : ∀ j : Int, (fx_cpy (fx_cpy (fx_cpy (fx_cpy (fx_cpy (fx_cpy (fx_up (fx_up (fx_up (fx_up (fx_up (fx_up M p 0 (M q 0)) p 1 (M q 1)) p 2 (M q 2)) p 3 (M q 3)) p 4 (M q 4)) p 12 0) (q + 1) 0 (p + 1) 0 12) (q + 2) 0 (p + 2) 0 12) (q + 3) 0 (p + 3) 0 12) (q + 4) 0 (p + 4) 0 48) (q + 5) 0 (p + 5) 0 12) (q + 6) 0 (p + 6) 0 9) p j = (fx_up (fx_up (fx_up (fx_up (fx_up (fx_up M p 0 (M q 0)) p 1 (M q 1)) p 2 (M q 2)) p 3 (M q 3)) p 4 (M q 4)) p 12 0) p j := fun j => by
      rw [cpy_ne (by omega), cpy_ne (by omega), cpy_ne (by omega), cpy_ne (by omega), cpy_ne (by omega), cpy_ne (by omega)]
    refine ⟨?_, ?_, ?_, ?_, ?_, fun r R hR => ?_, fun c hc => ?_, ?_, ?_, ?_⟩
    · rw [v]; simp [fx_up]; exact z0
    · rw [v]; simp [fx_up]; exact z1
    · rw [v]; simp [fx_up]; exact z2
    · rw [v]; simp [fx_up]; exact z3
    · rw [v]; simp [fx_up]; exact z4
    · obtain ⟨a1, a2, a3, a4, a5⟩ := z5 r R hR
      have hr := (List.getElem?_eq_some_iff.mp hR).1
      refine ⟨?_, ?_, ?_, fun i hi => ?_, ?_⟩
      · rw [cpy_ne (by omega), cpy_ne (by omega), cpy_ne (by omega), cpy_ne (by omega), cpy_ne (by omega), cpy_to (by omega), u _ _ (by omega)]
        exact a1
      · rw [cpy_ne (by omega), cpy_ne (by omega), cpy_ne (by omega), cpy_ne (by omega), cpy_to (by omega), cpy_ne (by omega), u _ _ (by omega)]
        exact a2
      · rw [cpy_ne (by omega), cpy_ne (by omega), cpy_ne (by omega), cpy_to (by omega), cpy_ne (by omega), cpy_ne (by omega), u _ _ (by omega)]
        exact a3
      · rw [cpy_ne (by omega), cpy_ne (by omega), cpy_to (by omega), cpy_ne (by omega), cpy_ne (by omega), cpy_ne (by omega), u _ _ (by omega)]
        exact a4 i hi
      · rw [cpy_ne (by omega), cpy_to (by omega), cpy_ne (by omega), cpy_ne (by omega), cpy_ne (by omega), cpy_ne (by omega), u _ _ (by omega)]
        exact a5
    · rw [cpy_to (by omega), cpy_ne (by omega), cpy_ne (by omega), cpy_ne (by omega), cpy_ne (by omega), cpy_ne (by omega), u _ _ (by omega)]
      exact z6 c hc
    · rw [v]; simp [fx_up]
    · rw [v]; simp [fx_up]
    · intro r R hR hr
      rw [v, fx_up_self] at hr
      omega
  · intro b j hb
    rw [cpy_ne (by omega), cpy_ne (by omega), cpy_ne (by omega), cpy_ne (by omega), cpy_ne (by omega), cpy_ne (by omega), fx_up_na (by omega), fx_up_na (by omega), fx_up_na (by omega), fx_up_na (by omega), fx_up_na (by omega), fx_up_na (by omega)]
end CPY
