/-! BITS of sets of cells. -/
theorem fx_or_nat {x y : Int} (hx : 0 ≤ x ∧ x ≤ 2147483647) (hy : 0 ≤ y ∧ y ≤ 2147483647) : fx_or x y = ((x.toNat ||| y.toNat : Nat) : Int) := by
  have hlt : x.toNat ||| y.toNat < 2 ^ 31 := Nat.or_lt_two_pow (by omega) (by omega)
  unfold fx_or
  rw [← Int32.toInt_toBitVec, Int32.toBitVec_or, Int32.toBitVec_ofInt, Int32.toBitVec_ofInt, BitVec.toInt_eq_toNat_of_lt]
  · rw [BitVec.toNat_or, fx_tn32, fx_tn32, Int.emod_eq_of_lt (by omega) (by omega), Int.emod_eq_of_lt (by omega) (by omega)]
  · rw [BitVec.toNat_or, fx_tn32, fx_tn32, Int.emod_eq_of_lt (by omega) (by omega), Int.emod_eq_of_lt (by omega) (by omega)]
    omega
theorem fx_shl_1 {c : Int} (hc : 0 ≤ c ∧ c < 31) : fx_shl 1 c = ((2 ^ c.toNat : Nat) : Int) := by
  have h : ∀ n : Fin 31, fx_shl 1 ((n : Nat) : Int) = ((2 ^ (n : Nat) : Nat) : Int) := by decide +kernel
  have := h ⟨c.toNat, by omega⟩
  rwa [show ((c.toNat : Nat) : Int) = c by omega] at this
theorem fx_bit {x c : Int} (hx : 0 ≤ x ∧ x ≤ 2147483647) (hc : 0 ≤ c ∧ c < 31) : fx_and (fx_shr x c) 1 = if x.toNat.testBit c.toNat = true then 1 else 0 := by
  rw [fx_and_1, fx_shr_eq ⟨by omega, by omega⟩ ⟨by omega, by omega⟩]
  have e : x / ((2 ^ c.toNat : Nat) : Int) % 2 = ((x.toNat / 2 ^ c.toNat % 2 : Nat) : Int) := by
    rw [Int.natCast_emod, Int.natCast_ediv, Int.toNat_of_nonneg hx.1]
    rfl
  rw [e]
  have ht : x.toNat.testBit c.toNat = decide (x.toNat / 2 ^ c.toNat % 2 = 1) := Nat.testBit_eq_decide_div_mod_eq
  rw [ht]
  have h2 : x.toNat / 2 ^ c.toNat % 2 < 2 := Nat.mod_lt _ (by decide)
  by_cases h : x.toNat / 2 ^ c.toNat % 2 = 1
  · rw [h]
    rfl
  · have h0 : x.toNat / 2 ^ c.toNat % 2 = 0 := by omega
    rw [h0]
    rfl
/-- a set of cells as a Nat -/
def nar (l : List Int) : Nat := l.foldl (fun a c => a ||| 2 ^ c.toNat) 0
theorem nar_go : ∀ (l : List Int) (a : Nat), (∀ c ∈ l, 0 ≤ c ∧ c < 31) → a < 2 ^ 31 → l.foldl (fun a c => fx_or a (fx_shl 1 c)) (a : Int) = ((l.foldl (fun a c => a ||| 2 ^ c.toNat) a : Nat) : Int) ∧ l.foldl (fun a c => a ||| 2 ^ c.toNat) a < 2 ^ 31
  | [], a, _, ha => ⟨rfl, ha⟩
  | c :: l, a, h, ha => by
    have hc := h c (by simp)
    have hp : 2 ^ c.toNat < 2 ^ 31 := Nat.pow_lt_pow_right (by decide) (by omega)
    have e : fx_or (a : Int) (fx_shl 1 c) = ((a ||| 2 ^ c.toNat : Nat) : Int) := by
      rw [fx_shl_1 hc]
      generalize (2 ^ c.toNat : Nat) = y at hp
      rw [fx_or_nat (by omega) (by omega)]
      rfl
    have hlt : a ||| 2 ^ c.toNat < 2 ^ 31 := Nat.or_lt_two_pow ha hp
    have ih := nar_go l (a ||| 2 ^ c.toNat) (fun x hx => h x (by simp [hx])) hlt
    simp only [List.foldl_cons]
    rw [e]
    exact ih
theorem area_nar {l : List Int} (h : ∀ c ∈ l, 0 ≤ c ∧ c < 31) : area l = (nar l : Int) ∧ nar l < 2 ^ 31 := nar_go l 0 h (by decide)
theorem nar_bit_go : ∀ (l : List Int) (a k : Nat), (l.foldl (fun a c => a ||| 2 ^ c.toNat) a).testBit k = (a.testBit k || l.any fun c => c.toNat == k)
  | [], a, k => by simp
  | c :: l, a, k => by
    simp only [List.foldl_cons]
    rw [nar_bit_go l (a ||| 2 ^ c.toNat) k, Nat.testBit_or, Nat.testBit_two_pow]
    simp only [List.any_cons, Bool.or_assoc]
    congr 2
theorem nar_bit (l : List Int) (k : Nat) : (nar l).testBit k = l.any fun c => c.toNat == k := by
  unfold nar
  rw [nar_bit_go]
  simp
theorem nar_mem {l : List Int} {c : Int} (h : ∀ x ∈ l, 0 ≤ x ∧ x < 31) (hc : 0 ≤ c) : (nar l).testBit c.toNat = true ↔ c ∈ l := by
  rw [nar_bit, List.any_eq_true]
  refine ⟨fun ⟨x, hx, he⟩ => ?_, fun hx => ⟨c, hx, by simp⟩⟩
  have h0 := h x hx
  have he := eq_of_beq he
  have : x = c := by omega
  rw [← this]
  exact hx
theorem area_app (l : List Int) (c : Int) : area (l ++ [c]) = fx_or (area l) (fx_shl 1 c) := by
  unfold area
  rw [List.foldl_append]
  rfl
theorem area_test {l : List Int} {c : Int} (h : ∀ x ∈ l, 0 ≤ x ∧ x < 31) (hc : 0 ≤ c ∧ c < 31) : fx_and (fx_shr (area l) c) 1 = if c ∈ l then 1 else 0 := by
  obtain ⟨h1, h2⟩ := area_nar h
  rw [h1, fx_bit (by omega) hc, Int.toNat_natCast]
  by_cases hm : c ∈ l
  · rw [if_pos ((nar_mem h hc.1).mpr hm), if_pos hm]
  · rw [if_neg (fun hx => hm ((nar_mem h hc.1).mp hx)), if_neg hm]
theorem area_in {l : List Int} (h : ∀ x ∈ l, 0 ≤ x ∧ x < 31) : 0 ≤ area l ∧ area l ≤ 2147483647 := by
  obtain ⟨h1, h2⟩ := area_nar h
  omega
