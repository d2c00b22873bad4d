/-! PUZZLES: where a cell stands, of the class. -/
section PZX
variable {kc : List va_E} {d p : Nat} {M : fx_M} {Q : Option fx_V → fx_M → Prop} {w x : Int}
theorem sp_across (Hp : fx_puz p) (h : M p 0 = w) (hw : 1 ≤ w ∧ w ≤ 3) (hx : 0 ≤ x ∧ x ≤ 2147483647) (K : Q (some (jI (x % w))) M) : wc kc (d + 1) 426 [jR p, jI x] M Q := by
  refine s426 Hp ?_
  rw [h, if_neg (show ¬ w < 1 by omega)]
  exact ⟨⟨by omega, by omega⟩, ⟨⟨by omega, by omega⟩, ⟨by omega, by omega⟩⟩, K⟩
theorem sp_down (Hp : fx_puz p) (h : M p 0 = w) (hw : 1 ≤ w ∧ w ≤ 3) (hx : 0 ≤ x ∧ x ≤ 2147483647) (K : Q (some (jI (x / w))) M) : wc kc (d + 1) 427 [jR p, jI x] M Q := by
  refine s427 Hp ?_
  rw [h, if_neg (show ¬ w < 1 by omega)]
  exact ⟨⟨by omega, by omega⟩, ⟨⟨by omega, by omega⟩, ⟨by omega, by omega⟩⟩, K⟩
end PZX
