/-! Bits counted, of small powers; cells that are settled. -/
theorem lct_pow : ∀ k : Fin 40, lct (((2 ^ (k : Nat) - 1 : Nat)) : Int) = ((k : Nat) : Int) := by decide +kernel
section LBC
variable {kc : List va_E} {d : Nat} {M : fx_M} {Q : Option fx_V → fx_M → Prop}
theorem sp_lct {x : Int} (K : Q (some (jI (lct x))) M) : wc kc (d + 1) 128 [jL x] M Q := s128 K
/-- the cells of one symbol alone -/
def s_al (S : Nat → Nat) : Nat → Nat := fun c => if S c &&& (S c - 1) = 0 then S c else 0
theorem any4 : ∀ m : Fin 16, ((m : Nat).testBit 0 || (m : Nat).testBit 1 || (m : Nat).testBit 2 || (m : Nat).testBit 3) = decide ((m : Nat) ≠ 0) := by decide +kernel
theorem sta_al {x : Int} {S : Nat → Nat} (h : sta x S) (h16 : ∀ c, c < 10 → S c < 16) (hne : ∀ c, c < 10 → S c ≠ 0) : sta (fx_land x (fx_lxor ((fx_land (fx_lor (fx_lor (fx_lor (fx_land x (x - 73300775185)) (fx_lushr (fx_land x (x - 73300775185)) 1)) (fx_lushr (fx_land x (x - 73300775185)) 2)) (fx_lushr (fx_land x (x - 73300775185)) 3)) 73300775185) * 15) (-1))) (s_al S) := by
  have hx := sta_vL h h16
  have e1 : x - 73300775185 = ((vL (fun c => S c - 1) 10 : Nat) : Int) := by
    have hs := vL_sub (S := S) (T := fun _ => 1) 10 (fun c hc => by have := hne c hc; omega)
    have h1 : vL (fun _ => 1) 10 = 73300775185 := by decide
    omega
  have st1 := vL_sta (S := fun c => S c - 1) (fun c hc => by have := h16 c hc; omega)
  have stm : sta (fx_land x (x - 73300775185)) (fun c => S c &&& (S c - 1)) := ⟨in64_land _ _, fun i hi => by
    rw [e1, lbit_land, h.2 i hi, st1.2 i hi, Nat.testBit_and]
    cases decide (i < 40) <;> simp⟩
  generalize fx_land x (x - 73300775185) = y at stm
  have m16 : ∀ c, c < 10 → S c &&& (S c - 1) < 16 := fun c hc => Nat.lt_of_le_of_lt Nat.and_le_left (h16 c hc)
  have stc : sta (fx_land (fx_lor (fx_lor (fx_lor y (fx_lushr y 1)) (fx_lushr y 2)) (fx_lushr y 3)) 73300775185) (fun c => if S c &&& (S c - 1) = 0 then 0 else 1) := ⟨in64_land _ _, fun i hi => by
    rw [lbit_land, lbit_lor, lbit_lor, lbit_lor, lbit_lushr _ ⟨by omega, by omega⟩, lbit_lushr _ ⟨by omega, by omega⟩, lbit_lushr _ ⟨by omega, by omega⟩, lbit_ones hi]
    show ((lbit y i || lbit y (i + 1) || lbit y (i + 2) || lbit y (i + 3)) && (decide (i < 40) && decide (i % 4 = 0))) = _
    dsimp only
    by_cases h40 : i < 40
    · by_cases h4 : i % 4 = 0
      · have a := any4 ⟨S (i / 4) &&& (S (i / 4) - 1), m16 _ (by omega)⟩
        simp only at a
        rw [stm.2 i hi, stm.2 (i + 1) (by omega), stm.2 (i + 2) (by omega), stm.2 (i + 3) (by omega), show (i + 1) / 4 = i / 4 by omega, show (i + 2) / 4 = i / 4 by omega, show (i + 3) / 4 = i / 4 by omega, show (i + 1) % 4 = 1 by omega, show (i + 2) % 4 = 2 by omega, show (i + 3) % 4 = 3 by omega, h4, show decide (i < 40) = true from decide_eq_true h40, show decide (i + 1 < 40) = true from decide_eq_true (by omega), show decide (i + 2 < 40) = true from decide_eq_true (by omega), show decide (i + 3 < 40) = true from decide_eq_true (by omega), Bool.true_and, Bool.true_and, Bool.true_and, Bool.true_and, a]
        by_cases hz : S (i / 4) &&& (S (i / 4) - 1) = 0
        · rw [if_pos hz, show decide (S (i / 4) &&& (S (i / 4) - 1) ≠ 0) = false from decide_eq_false (fun h => h hz)]
          decide
        · rw [if_neg hz, show decide (S (i / 4) &&& (S (i / 4) - 1) ≠ 0) = true from decide_eq_true hz]
          decide
      · rw [show decide (i % 4 = 0) = false from decide_eq_false h4, Bool.and_false, Bool.and_false]
        symm
        rw [Bool.and_eq_false_iff]
        right
        split
        · exact Nat.zero_testBit _
        · have : ∀ k : Fin 4, (k : Nat) ≠ 0 → (1 : Nat).testBit (k : Nat) = false := by decide
          exact this ⟨i % 4, by omega⟩ h4
    · rw [show decide (i < 40) = false from decide_eq_false h40, Bool.false_and, Bool.and_false, Bool.false_and]⟩
  have hc := sta_vL stc (fun c _ => by split <;> omega)
  have e15 : fx_land (fx_lor (fx_lor (fx_lor y (fx_lushr y 1)) (fx_lushr y 2)) (fx_lushr y 3)) 73300775185 * 15 = ((vL (fun c => if S c &&& (S c - 1) = 0 then 0 else 15) 10 : Nat) : Int) := by
    rw [hc]
    have : ∀ n, vL (fun c => if S c &&& (S c - 1) = 0 then 0 else 15) n = 15 * vL (fun c => if S c &&& (S c - 1) = 0 then 0 else 1) n := by
      intro n
      induction n with
      | zero => rfl
      | succ n ih =>
        unfold vL
        rw [ih]
        by_cases hz : S n &&& (S n - 1) = 0
        · simp only [if_pos hz]
          omega
        · simp only [if_neg hz]
          omega
    rw [this 10]
    omega
  rw [e15]
  have st5 := vL_sta (S := fun c => if S c &&& (S c - 1) = 0 then 0 else 15) (fun c _ => by split <;> omega)
  refine ⟨in64_land _ _, fun i hi => ?_⟩
  rw [lbit_land, lbit_not, h.2 i hi, st5.2 i hi]
  unfold s_al
  dsimp only
  by_cases h40 : i < 40
  · rw [show decide (i < 40) = true from decide_eq_true h40, show decide (i < 64) = true from decide_eq_true hi, Bool.true_and, Bool.true_and, Bool.true_and, Bool.true_and]
    by_cases hz : S (i / 4) &&& (S (i / 4) - 1) = 0
    · rw [if_pos hz, if_pos hz, Nat.zero_testBit, Bool.not_false, Bool.and_true]
    · rw [if_neg hz, if_neg hz, Nat.zero_testBit]
      have : ∀ k : Fin 4, (15 : Nat).testBit (k : Nat) = true := by decide
      rw [this ⟨i % 4, by omega⟩, Bool.not_true, Bool.and_false]
  · rw [show decide (i < 40) = false from decide_eq_false h40, Bool.false_and, Bool.false_and, Bool.false_and]
theorem sp_settled {x : Int} {S : Nat → Nat} (h : sta x S) (h16 : ∀ c, c < 10 → S c < 16) (hne : ∀ c, c < 10 → S c ≠ 0) (K : ∀ y, sta y (s_al S) → Q (some (jL y)) M) : wc kc (d + 1) 127 [jL x] M Q := s127 (K _ (sta_al h h16 hne))
end LBC
