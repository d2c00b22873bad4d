/-! BITS: what shifts and masks are of Ints. -/
theorem fx_amt {s : Int} (hs : 0 ≤ s ∧ s < 32) : ((Int32.ofInt s &&& 31).toBitVec.smod 32).toNat = s.toNat := by
  have h : ∀ n : Fin 32, ((Int32.ofInt ((n : Nat) : Int) &&& 31).toBitVec.smod 32).toNat = n := by decide +kernel
  have := h ⟨s.toNat, by omega⟩
  rwa [show ((s.toNat : Nat) : Int) = s by omega] at this
theorem fx_amt64 {s : Int} (hs : 0 ≤ s ∧ s < 64) : (((Int32.ofInt s).toInt64 &&& 63).toBitVec.smod 64).toNat = s.toNat := by
  have h : ∀ n : Fin 64, (((Int32.ofInt ((n : Nat) : Int)).toInt64 &&& 63).toBitVec.smod 64).toNat = n := by decide +kernel
  have := h ⟨s.toNat, by omega⟩
  rwa [show ((s.toNat : Nat) : Int) = s by omega] at this
theorem fx_shr_eq {x s : Int} (hx : fx_in32 x) (hs : 0 ≤ s ∧ s < 32) : fx_shr x s = x / ((2 ^ s.toNat : Nat) : Int) := by
  unfold fx_shr
  rw [← Int32.toInt_toBitVec, Int32.toBitVec_shiftRight, BitVec.toInt_sshiftRight', Int32.toInt_toBitVec, fx_to hx, Int.shiftRight_eq_div_pow, fx_amt hs]
theorem fx_lshr_eq {x s : Int} (hx : fx_in64 x) (hs : 0 ≤ s ∧ s < 64) : fx_lshr x s = x / ((2 ^ s.toNat : Nat) : Int) := by
  unfold fx_lshr
  rw [← Int64.toInt_toBitVec, Int64.toBitVec_shiftRight, BitVec.toInt_sshiftRight', Int64.toInt_toBitVec, fx_to64 hx, Int.shiftRight_eq_div_pow, fx_amt64 hs]
theorem fx_bmod {n : Nat} {w : Nat} (h : 2 * n < 2 ^ w) : ((n : Nat) : Int).bmod (2 ^ w) = n := by
  rw [Int.bmod_eq_of_le] <;> omega
theorem fx_tn32 (x : Int) : (BitVec.ofInt 32 x).toNat = (x % 4294967296).toNat := by
  rw [BitVec.toNat_ofInt]
  rfl
theorem fx_tn64 (x : Int) : (BitVec.ofInt 64 x).toNat = (x % 18446744073709551616).toNat := by
  rw [BitVec.toNat_ofInt]
  rfl
theorem fx_and_nat {x y : Int} : fx_and x y = (((x % 4294967296).toNat &&& (y % 4294967296).toNat : Nat) : Int).bmod (2 ^ 32) := by
  unfold fx_and
  rw [← Int32.toInt_toBitVec, Int32.toBitVec_and, BitVec.toInt_and, Int32.toBitVec_ofInt, Int32.toBitVec_ofInt, fx_tn32, fx_tn32]
theorem fx_land_nat {x y : Int} : fx_land x y = (((x % 18446744073709551616).toNat &&& (y % 18446744073709551616).toNat : Nat) : Int).bmod (2 ^ 64) := by
  unfold fx_land
  rw [← Int64.toInt_toBitVec, Int64.toBitVec_and, BitVec.toInt_and, Int64.toBitVec_ofInt, Int64.toBitVec_ofInt, fx_tn64, fx_tn64]
theorem fx_pow_lt {k : Nat} (hk : k < 31) : 2 ^ k < 2 ^ 31 := Nat.pow_lt_pow_right (by decide) hk
theorem fx_and_mask {x m : Int} (k : Nat) (hk : k < 31) (hm : m = ((2 ^ k : Nat) : Int) - 1) : fx_and x m = x % ((2 ^ k : Nat) : Int) := by
  have hp := fx_pow_lt hk
  have hp0 : 0 < 2 ^ k := Nat.pos_of_ne_zero (by simp)
  have hd : ((2 ^ k : Nat) : Int) ∣ 4294967296 := by
    have : (2 ^ k : Nat) ∣ 2 ^ 32 := Nat.pow_dvd_pow 2 (by omega)
    have h2 : ((2 ^ k : Nat) : Int) ∣ ((2 ^ 32 : Nat) : Int) := Int.natCast_dvd_natCast.mpr this
    exact h2
  rw [fx_and_nat]
  generalize hK : (2 ^ k : Nat) = K at *
  have e1 : (m % 4294967296).toNat = K - 1 := by
    rw [Int.emod_eq_of_lt (by omega) (by omega)]
    omega
  have e2 : (x % 4294967296).toNat &&& (K - 1) = (x % 4294967296).toNat % K := by
    rw [← hK]
    exact Nat.and_two_pow_sub_one_eq_mod _ _
  rw [e1, e2]
  have e3 : (((x % 4294967296).toNat % K : Nat) : Int) = x % (K : Int) := by
    rw [Int.natCast_emod, Int.toNat_of_nonneg (by omega), Int.emod_emod_of_dvd _ hd]
  have hlt : (x % 4294967296).toNat % K < K := Nat.mod_lt _ hp0
  rw [fx_bmod (by omega), e3]
theorem fx_land_mask {x m : Int} (k : Nat) (hk : k < 63) (hm : m = ((2 ^ k : Nat) : Int) - 1) : fx_land x m = x % ((2 ^ k : Nat) : Int) := by
  have hp : 2 ^ k < 2 ^ 63 := Nat.pow_lt_pow_right (by decide) hk
  have hp0 : 0 < 2 ^ k := Nat.pos_of_ne_zero (by simp)
  have hd : ((2 ^ k : Nat) : Int) ∣ 18446744073709551616 := by
    have : (2 ^ k : Nat) ∣ 2 ^ 64 := Nat.pow_dvd_pow 2 (by omega)
    have h2 : ((2 ^ k : Nat) : Int) ∣ ((2 ^ 64 : Nat) : Int) := Int.natCast_dvd_natCast.mpr this
    exact h2
  rw [fx_land_nat]
  generalize hK : (2 ^ k : Nat) = K at *
  have e1 : (m % 18446744073709551616).toNat = K - 1 := by
    rw [Int.emod_eq_of_lt (by omega) (by omega)]
    omega
  have e2 : (x % 18446744073709551616).toNat &&& (K - 1) = (x % 18446744073709551616).toNat % K := by
    rw [← hK]
    exact Nat.and_two_pow_sub_one_eq_mod _ _
  rw [e1, e2]
  have e3 : (((x % 18446744073709551616).toNat % K : Nat) : Int) = x % (K : Int) := by
    rw [Int.natCast_emod, Int.toNat_of_nonneg (by omega), Int.emod_emod_of_dvd _ hd]
  have hlt : (x % 18446744073709551616).toNat % K < K := Nat.mod_lt _ hp0
  rw [fx_bmod (by omega), e3]
theorem fx_and_255 (x : Int) : fx_and x 255 = x % 256 := fx_and_mask 8 (by decide) (by decide)
theorem fx_and_7 (x : Int) : fx_and x 7 = x % 8 := fx_and_mask 3 (by decide) (by decide)
theorem fx_and_1 (x : Int) : fx_and x 1 = x % 2 := fx_and_mask 1 (by decide) (by decide)
theorem fx_and_3 (x : Int) : fx_and x 3 = x % 4 := fx_and_mask 2 (by decide) (by decide)
theorem fx_and_15 (x : Int) : fx_and x 15 = x % 16 := fx_and_mask 4 (by decide) (by decide)
theorem fx_land_255 (x : Int) : fx_land x 255 = x % 256 := fx_land_mask 8 (by decide) (by decide)
