/-! LONGS as bits. -/
/-- the bits of a long -/
def lb (x : Int) : BitVec 64 := BitVec.ofInt 64 x
theorem lbit_lb (x : Int) (i : Nat) : lbit x i = (lb x).getLsbD i := by
  unfold lbit lb
  rw [← fx_tn64]
  rfl
theorem lb_toInt (v : BitVec 64) : lb v.toInt = v := BitVec.ofInt_toInt
theorem lb_land (x y : Int) : lb (fx_land x y) = lb x &&& lb y := by
  unfold fx_land
  rw [← Int64.toInt_toBitVec, lb_toInt, Int64.toBitVec_and, Int64.toBitVec_ofInt, Int64.toBitVec_ofInt]
  rfl
theorem lb_lor (x y : Int) : lb (fx_lor x y) = lb x ||| lb y := by
  unfold fx_lor
  rw [← Int64.toInt_toBitVec, lb_toInt, Int64.toBitVec_or, Int64.toBitVec_ofInt, Int64.toBitVec_ofInt]
  rfl
theorem lb_lxor (x y : Int) : lb (fx_lxor x y) = lb x ^^^ lb y := by
  unfold fx_lxor
  rw [← Int64.toInt_toBitVec, lb_toInt, Int64.toBitVec_xor, Int64.toBitVec_ofInt, Int64.toBitVec_ofInt]
  rfl
theorem amt64n {s : Int} (hs : 0 ≤ s ∧ s < 64) : (((Int32.ofInt s).toInt64 &&& 63).toBitVec.smod 64) = BitVec.ofNat 64 s.toNat := by
  have h : ∀ n : Fin 64, (((Int32.ofInt ((n : Nat) : Int)).toInt64 &&& 63).toBitVec.smod 64) = BitVec.ofNat 64 n := by decide +kernel
  have := h ⟨s.toNat, by omega⟩
  rwa [show ((s.toNat : Nat) : Int) = s by omega] at this
theorem lb_lshl (x : Int) {s : Int} (hs : 0 ≤ s ∧ s < 64) : lb (fx_lshl x s) = lb x <<< s.toNat := by
  unfold fx_lshl
  rw [← Int64.toInt_toBitVec, lb_toInt, Int64.toBitVec_shiftLeft, amt64n hs, Int64.toBitVec_ofInt]
  show lb x <<< (BitVec.ofNat 64 s.toNat).toNat = _
  rw [BitVec.toNat_ofNat, Nat.mod_eq_of_lt (by omega)]
theorem amtu64 {s : Int} (hs : 0 ≤ s ∧ s < 64) : (((Int32.ofInt s).toInt64.toUInt64 &&& Int64.toUInt64 63).toBitVec % 64) = BitVec.ofNat 64 s.toNat := by
  have h : ∀ n : Fin 64, (((Int32.ofInt ((n : Nat) : Int)).toInt64.toUInt64 &&& Int64.toUInt64 63).toBitVec % 64) = BitVec.ofNat 64 n := by decide +kernel
  have := h ⟨s.toNat, by omega⟩
  rwa [show ((s.toNat : Nat) : Int) = s by omega] at this
theorem lb_lushr (x : Int) {s : Int} (hs : 0 ≤ s ∧ s < 64) : lb (fx_lushr x s) = lb x >>> s.toNat := by
  unfold fx_lushr
  rw [← Int64.toInt_toBitVec, lb_toInt]
  show ((Int64.ofInt x).toUInt64 >>> ((Int32.ofInt s).toInt64.toUInt64 &&& Int64.toUInt64 63)).toBitVec = _
  rw [UInt64.toBitVec_shiftRight, amtu64 hs]
  show (Int64.ofInt x).toBitVec >>> (BitVec.ofNat 64 s.toNat).toNat = _
  rw [BitVec.toNat_ofNat, Nat.mod_eq_of_lt (by omega), Int64.toBitVec_ofInt]
  rfl
theorem in64_toInt (v : BitVec 64) : fx_in64 v.toInt := by
  have h1 := BitVec.toInt_lt (x := v)
  have h2 := BitVec.le_toInt (x := v)
  constructor <;> omega
theorem toInt_lb {x : Int} (h : fx_in64 x) : (lb x).toInt = x := by
  unfold lb
  rw [BitVec.toInt_ofInt, Int.bmod_eq_of_le]
  · have := h.1
    omega
  · have := h.2
    omega
theorem lb_inj {x y : Int} (hx : fx_in64 x) (hy : fx_in64 y) (h : lb x = lb y) : x = y := by rw [← toInt_lb hx, ← toInt_lb hy, h]
theorem in64_land (x y : Int) : fx_in64 (fx_land x y) := by
  unfold fx_land
  rw [← Int64.toInt_toBitVec]
  exact in64_toInt _
theorem in64_lor (x y : Int) : fx_in64 (fx_lor x y) := by
  unfold fx_lor
  rw [← Int64.toInt_toBitVec]
  exact in64_toInt _
theorem in64_lxor (x y : Int) : fx_in64 (fx_lxor x y) := by
  unfold fx_lxor
  rw [← Int64.toInt_toBitVec]
  exact in64_toInt _
theorem in64_lshl (x y : Int) : fx_in64 (fx_lshl x y) := by
  unfold fx_lshl
  rw [← Int64.toInt_toBitVec]
  exact in64_toInt _
theorem in64_lushr (x y : Int) : fx_in64 (fx_lushr x y) := by
  unfold fx_lushr
  rw [← Int64.toInt_toBitVec]
  exact in64_toInt _
theorem lbit_ge {x : Int} {i : Nat} (h : 64 ≤ i) : lbit x i = false := by
  rw [lbit_lb]
  exact BitVec.getLsbD_of_ge _ _ h
theorem lbit_land (x y : Int) (i : Nat) : lbit (fx_land x y) i = (lbit x i && lbit y i) := by
  rw [lbit_lb, lb_land, BitVec.getLsbD_and, ← lbit_lb, ← lbit_lb]
theorem lbit_lor (x y : Int) (i : Nat) : lbit (fx_lor x y) i = (lbit x i || lbit y i) := by
  rw [lbit_lb, lb_lor, BitVec.getLsbD_or, ← lbit_lb, ← lbit_lb]
theorem lbit_lxor (x y : Int) (i : Nat) : lbit (fx_lxor x y) i = (lbit x i != lbit y i) := by
  rw [lbit_lb, lb_lxor, BitVec.getLsbD_xor, ← lbit_lb, ← lbit_lb]
theorem lbit_lshl (x : Int) {s : Int} (hs : 0 ≤ s ∧ s < 64) (i : Nat) : lbit (fx_lshl x s) i = (decide (i < 64) && (decide (s.toNat ≤ i) && lbit x (i - s.toNat))) := by
  rw [lbit_lb, lb_lshl x hs, BitVec.getLsbD_shiftLeft, ← lbit_lb]
  by_cases h : i < s.toNat
  · rw [show decide (i < s.toNat) = true by simp [h], show decide (s.toNat ≤ i) = false by simp; omega]
    cases decide (i < 64) <;> rfl
  · rw [show decide (i < s.toNat) = false by simp [h], show decide (s.toNat ≤ i) = true by simp; omega]
    cases decide (i < 64) <;> rfl
theorem lbit_lushr (x : Int) {s : Int} (hs : 0 ≤ s ∧ s < 64) (i : Nat) : lbit (fx_lushr x s) i = lbit x (i + s.toNat) := by
  rw [lbit_lb, lb_lushr x hs, BitVec.getLsbD_ushiftRight, ← lbit_lb, Nat.add_comm]
theorem lbit_not (x : Int) (i : Nat) : lbit (fx_lxor x (-1)) i = (decide (i < 64) && !lbit x i) := by
  rw [lbit_lxor]
  have h : lbit (-1) i = decide (i < 64) := by
    rw [lbit_lb]
    show (BitVec.ofInt 64 (-1)).getLsbD i = _
    rw [show BitVec.ofInt 64 (-1) = BitVec.allOnes 64 by decide +kernel, BitVec.getLsbD_allOnes]
  rw [h]
  by_cases hi : i < 64
  · simp [hi]
  · rw [lbit_ge (by omega)]
    simp [hi]
theorem lbit_nat {n : Nat} (h : n < 18446744073709551616) (i : Nat) : lbit (n : Int) i = n.testBit i := by
  unfold lbit
  rw [Int.emod_eq_of_lt (by omega) (by omega), Int.toNat_natCast]
theorem lbit_0 (i : Nat) : lbit 0 i = false := by
  have := lbit_nat (n := 0) (by decide) i
  rw [Nat.zero_testBit] at this
  exact this
theorem lbit_1 (i : Nat) : lbit 1 i = decide (i = 0) := by
  have := lbit_nat (n := 1) (by decide) i
  have h2 := Nat.testBit_two_pow (n := 0) (m := i)
  rw [Nat.pow_zero] at h2
  rw [show (1 : Int) = ((1 : Nat) : Int) by rfl, this, h2]
  simp [eq_comm]
theorem lbit_ext {x y : Int} (hx : fx_in64 x) (hy : fx_in64 y) (h : ∀ i, i < 64 → lbit x i = lbit y i) : x = y := by
  refine lb_inj hx hy (BitVec.eq_of_getLsbD_eq (fun i hi => ?_))
  rw [← lbit_lb, ← lbit_lb]
  exact h i hi
theorem lbit_ne0 {x : Int} (hx : fx_in64 x) : x ≠ 0 ↔ ∃ i, i < 64 ∧ lbit x i = true := by
  constructor
  · intro h
    by_cases hc : ∃ i, i < 64 ∧ lbit x i = true
    · exact hc
    · exfalso
      apply h
      refine lbit_ext hx ⟨by omega, by omega⟩ (fun i hi => ?_)
      rw [lbit_0]
      cases hb : lbit x i
      · rfl
      · exact absurd ⟨i, hi, hb⟩ hc
  · rintro ⟨i, hi, hb⟩ rfl
    rw [lbit_0] at hb
    exact absurd hb (by decide)
theorem cmp0 {x : Int} (hx : fx_in64 x) : fx_cmp x 0 = 0 ↔ x = 0 := by
  unfold fx_cmp
  (repeat' split) <;> omega
