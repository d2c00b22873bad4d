/-! STANDINGS: of each of ten cells the symbols that it may have, as four bits; a long holds them. -/
def sta (x : Int) (S : Nat → Nat) : Prop := fx_in64 x ∧ ∀ i : Nat, i < 64 → lbit x i = (decide (i < 40) && (S (i / 4)).testBit (i % 4))
theorem emod16 (y : Int) : y % 16 = (((y % 18446744073709551616).toNat % 16 : Nat) : Int) := by omega
theorem nib_eq {y : Int} {m : Nat} (hm : m < 16) (h : ∀ i, i < 4 → lbit y i = m.testBit i) : y % 16 = m := by
  rw [emod16]
  have : (y % 18446744073709551616).toNat % 16 = m := by
    refine Nat.eq_of_testBit_eq (fun i => ?_)
    rw [show (16 : Nat) = 2 ^ 4 by decide, Nat.testBit_mod_two_pow]
    by_cases hi : i < 4
    · have := h i hi
      unfold lbit at this
      rw [this]
      simp [hi]
    · have h2 : m.testBit i = false := Nat.testBit_lt_two_pow (Nat.lt_of_lt_of_le hm (by
        have : 2 ^ 4 ≤ 2 ^ i := Nat.pow_le_pow_right (by decide) (by omega)
        omega))
      rw [h2]
      simp [hi]
  rw [this]
/-- may -/
theorem sta_may {x : Int} {S : Nat → Nat} (h : sta x S) {c : Int} (hc : 0 ≤ c ∧ c < 10) (hS : S c.toNat < 16) : fx_and (fx_lushr x (4 * c)) 15 = (S c.toNat : Nat) := by
  rw [fx_and_15]
  refine nib_eq hS (fun i hi => ?_)
  rw [lbit_lushr x (by omega), h.2 _ (by omega), show (4 * c).toNat = 4 * c.toNat by omega, show (i + 4 * c.toNat) / 4 = c.toNat by omega, show (i + 4 * c.toNat) % 4 = i by omega]
  simp
  omega
theorem lbit_15 {s : Int} (hs : 0 ≤ s ∧ s < 64) (i : Nat) (hi : i < 64) : lbit (fx_lshl 15 s) i = decide (s.toNat ≤ i ∧ i < s.toNat + 4) := by
  rw [lbit_lshl 15 hs]
  have h : ∀ j : Fin 64, lbit 15 (j : Nat) = decide ((j : Nat) < 4) := by decide +kernel
  by_cases h1 : s.toNat ≤ i
  · have := h ⟨i - s.toNat, by omega⟩
    simp only at this
    rw [this]
    simp [hi, h1]
    omega
  · simp [h1]
theorem lbit_1s {s : Int} (hs : 0 ≤ s ∧ s < 64) (i : Nat) (hi : i < 64) : lbit (fx_lshl 1 s) i = decide (i = s.toNat) := by
  rw [lbit_lshl 1 hs, lbit_1]
  by_cases h1 : s.toNat ≤ i
  · simp [hi, h1]
    omega
  · simp [h1]
    omega
def s_only (S : Nat → Nat) (c s : Nat) : Nat → Nat := fun k => if k = c then 2 ^ s else S k
/-- symbols of a set without one of them -/
def clr (m s : Nat) : Nat := m &&& (15 - 2 ^ s)
def s_wo (S : Nat → Nat) (c s : Nat) : Nat → Nat := fun k => if k = c then clr (S k) s else S k
theorem tb15 : ∀ (s i : Fin 4), (15 - 2 ^ (s : Nat)).testBit (i : Nat) = decide ((i : Nat) ≠ s) := by decide +kernel
theorem clr_bit {m s i : Nat} (hs : s < 4) (hi : i < 4) : (clr m s).testBit i = (m.testBit i && decide (i ≠ s)) := by
  unfold clr
  rw [Nat.testBit_and]
  have := tb15 ⟨s, hs⟩ ⟨i, hi⟩
  simp only at this
  rw [this]
theorem pow_bit (s i : Nat) : (2 ^ s).testBit i = decide (i = s) := by
  rw [Nat.testBit_two_pow]
  simp [eq_comm]
/-- only -/
theorem sta_only {x : Int} {S : Nat → Nat} (h : sta x S) {c s : Int} (hc : 0 ≤ c ∧ c < 10) (hs : 0 ≤ s ∧ s < 4) : sta (fx_lor (fx_land x (fx_lxor (fx_lshl 15 (4 * c)) (-1))) (fx_lshl 1 (4 * c + s))) (s_only S c.toNat s.toNat) := by
  refine ⟨in64_lor _ _, fun i hi => ?_⟩
  rw [lbit_lor, lbit_land, lbit_not, lbit_15 (by omega) i hi, lbit_1s (by omega) i hi, h.2 i hi]
  unfold s_only
  by_cases hk : i / 4 = c.toNat
  · rw [if_pos hk, pow_bit]
    have h1 : (4 * c).toNat ≤ i ∧ i < (4 * c).toNat + 4 := by omega
    have h2 : i < 40 := by omega
    have h3 : (i = (4 * c + s).toNat) = (i % 4 = s.toNat) := by
      apply propext
      omega
    rw [decide_eq_true h1, decide_eq_true h2, decide_eq_true hi]
    simp [h3]
  · rw [if_neg hk]
    have h1 : ¬ ((4 * c).toNat ≤ i ∧ i < (4 * c).toNat + 4) := by omega
    have h3 : ¬ i = (4 * c + s).toNat := by omega
    rw [decide_eq_false h1, decide_eq_false h3, decide_eq_true hi]
    simp
/-- without -/
theorem sta_wo {x : Int} {S : Nat → Nat} (h : sta x S) {c s : Int} (hc : 0 ≤ c ∧ c < 10) (hs : 0 ≤ s ∧ s < 4) : sta (fx_land x (fx_lxor (fx_lshl 1 (4 * c + s)) (-1))) (s_wo S c.toNat s.toNat) := by
  refine ⟨in64_land _ _, fun i hi => ?_⟩
  rw [lbit_land, lbit_not, lbit_1s (by omega) i hi, h.2 i hi]
  unfold s_wo
  by_cases hk : i / 4 = c.toNat
  · rw [if_pos hk, clr_bit (by omega) (by omega)]
    have h3 : (i = (4 * c + s).toNat) = (i % 4 = s.toNat) := by
      apply propext
      omega
    rw [decide_eq_true hi]
    simp only [h3, Bool.true_and, ne_eq, decide_not, Bool.and_assoc]
  · rw [if_neg hk]
    have h3 : ¬ i = (4 * c + s).toNat := by omega
    rw [decide_eq_false h3, decide_eq_true hi]
    simp
theorem sta_ext {x : Int} {S T : Nat → Nat} (h : sta x S) (he : ∀ c, c < 10 → S c = T c) : sta x T := ⟨h.1, fun i hi => by
  rw [h.2 i hi]
  by_cases h4 : i < 40
  · rw [he (i / 4) (by omega)]
  · simp [h4]⟩
theorem sta_inj {x y : Int} {S : Nat → Nat} (h : sta x S) (h2 : sta y S) : x = y := lbit_ext h.1 h2.1 (fun i hi => by rw [h.2 i hi, h2.2 i hi])
/-- a standing of a puzzle: symbols of its cells, the other cells have symbol 0 -/
def s_ok (Z : PZ) (S : Nat → Nat) : Prop := ∀ c : Nat, c < 10 → (((c : Int) < Z.1 * Z.2.1 → S c < 2 ^ Z.2.2.1.toNat) ∧ (Z.1 * Z.2.1 ≤ (c : Int) → S c = 1))
theorem s_ok_16 {Z : PZ} {S : Nat → Nat} (ho : pz_ok Z) (h : s_ok Z S) {c : Nat} (hc : c < 10) : S c < 16 := by
  have := h c hc
  have h2 : 2 ^ Z.2.2.1.toNat ≤ 2 ^ 4 := Nat.pow_le_pow_right (by decide) (by have := ho.2.2.2.2.2.1; omega)
  by_cases hx : (c : Int) < Z.1 * Z.2.1
  · have := this.1 hx
    omega
  · have := this.2 (by omega)
    omega
def s_free (Z : PZ) : Nat → Nat := fun c => if (c : Int) < Z.1 * Z.2.1 then 2 ^ Z.2.2.1.toNat - 1 else 1
def s_first (Z : PZ) : Nat → Nat := fun c => if (c : Int) < Z.1 * Z.2.1 then (if 0 ≤ Z.2.2.2.2.getD c (-1) then 2 ^ (Z.2.2.2.2.getD c (-1)).toNat else 2 ^ Z.2.2.1.toNat - 1) else 1
theorem s_free_ok {Z : PZ} (ho : pz_ok Z) : s_ok Z (s_free Z) := fun c hc => by
  unfold s_free
  have h2 : 0 < 2 ^ Z.2.2.1.toNat := Nat.pos_of_ne_zero (by simp)
  exact ⟨fun h => by rw [if_pos h]; omega, fun h => by rw [if_neg (by omega)]⟩
theorem s_first_ok {Z : PZ} (ho : pz_ok Z) : s_ok Z (s_first Z) := fun c hc => by
  unfold s_first
  have h2 : 0 < 2 ^ Z.2.2.1.toNat := Nat.pos_of_ne_zero (by simp)
  refine ⟨fun h => ?_, fun h => by rw [if_neg (by omega)]⟩
  rw [if_pos h]
  split
  · next hg =>
    have h9 := pz_n ho
    have hlt : c < Z.2.2.2.2.length := by
      have := ho.2.2.2.2.2.2.2.2.1
      omega
    have hm : Z.2.2.2.2.getD c (-1) ∈ Z.2.2.2.2 := by
      rw [List.getD_eq_getElem?_getD, List.getElem?_eq_getElem hlt]
      exact List.getElem_mem hlt
    have := ho.2.2.2.2.2.2.2.2.2.1 _ hm
    exact Nat.pow_lt_pow_right (by decide) (by omega)
  · omega
theorem s_only_ok {Z : PZ} {S : Nat → Nat} (h : s_ok Z S) {c s : Nat} (hc : (c : Int) < Z.1 * Z.2.1) (hs : (s : Int) < Z.2.2.1) : s_ok Z (s_only S c s) := fun k hk => by
  unfold s_only
  by_cases hkc : k = c
  · rw [if_pos hkc, hkc]
    exact ⟨fun _ => Nat.pow_lt_pow_right (by decide) (by omega), fun h => by omega⟩
  · rw [if_neg hkc]
    exact h k hk
theorem s_wo_ok {Z : PZ} {S : Nat → Nat} (h : s_ok Z S) {c s : Nat} (hc : (c : Int) < Z.1 * Z.2.1) : s_ok Z (s_wo S c s) := fun k hk => by
  unfold s_wo
  by_cases hkc : k = c
  · rw [if_pos hkc, hkc]
    refine ⟨fun hx => ?_, fun h => by omega⟩
    have := (h c (by omega)).1 hx
    unfold clr
    exact Nat.lt_of_le_of_lt Nat.and_le_left this
  · rw [if_neg hkc]
    exact h k hk
section STF
variable {kc : List va_E} {d p : Nat} {M : fx_M} {Q : Option fx_V → fx_M → Prop} {Z : PZ}
theorem lbit_free {s : Nat} (hs : 1 ≤ s ∧ s ≤ 4) {c : Int} (hc : 0 ≤ c ∧ c < 10) (i : Nat) (hi : i < 64) : lbit (fx_lshl (fx_lshl 1 (s : Int) - 1) (4 * c)) i = (decide (i / 4 = c.toNat) && (2 ^ s - 1).testBit (i % 4)) := by
  have h : ∀ (s : Fin 5) (j : Fin 64), lbit (fx_lshl 1 ((s : Nat) : Int) - 1) (j : Nat) = (2 ^ (s : Nat) - 1).testBit (j : Nat) := by decide +kernel
  have h2 : ∀ (s : Fin 5) (j : Fin 64), 4 ≤ (j : Nat) → (2 ^ (s : Nat) - 1).testBit (j : Nat) = false := by decide +kernel
  rw [lbit_lshl _ (by omega)]
  by_cases h1 : (4 * c).toNat ≤ i
  · have a := h ⟨s, by omega⟩ ⟨i - (4 * c).toNat, by omega⟩
    have b := h2 ⟨s, by omega⟩ ⟨i - (4 * c).toNat, by omega⟩
    simp only at a b
    rw [a]
    by_cases h3 : i / 4 = c.toNat
    · rw [show i - (4 * c).toNat = i % 4 by omega]
      simp [hi, h1, h3]
    · rw [b (by omega)]
      simp [h3]
  · have h3 : ¬ i / 4 = c.toNat := by omega
    simp [h1, h3]
def s_part (Z : PZ) (k : Nat) : Nat → Nat := fun c => if c < k then 2 ^ Z.2.2.1.toNat - 1 else 1
theorem each1_bits : ∀ i : Fin 64, lbit 73300775185 (i : Nat) = (decide ((i : Nat) < 40) && (1 : Nat).testBit ((i : Nat) % 4)) := by decide +kernel
theorem free_loop (Hp : fx_puz p) (hz : cz M p Z) (ho : pz_ok Z) : ∀ (t k : Nat) (x : Int), (k : Int) + t = Z.1 * Z.2.1 → sta x (s_part Z k) → (∀ y, sta y (s_free Z) → Q (some (jL y)) M) → wp kc (d + 1) 82 6 [some (jR p), some (jL x), none, some (jI k)] [] M Q := by
  have h9 := pz_n ho
  have o5 := ho.2.2.2.2.1
  have o6 := ho.2.2.2.2.2.1
  intro t
  induction t with
  | zero =>
    intro k x hk hx K
    refine s82_6 Hp ?_
    rw [hz.2.2.1]
    refine ⟨⟨⟨by omega, by omega⟩, ⟨by omega, by omega⟩⟩, fun _ => K x (sta_ext hx (fun c hc => ?_)), fun h => by omega⟩
    unfold s_part s_free
    by_cases hck : c < k
    · rw [if_pos hck, if_pos (by omega)]
    · rw [if_neg hck, if_neg (by omega)]
  | succ t ih =>
    intro k x hk hx K
    refine s82_6 Hp ?_
    rw [hz.2.2.1, hz.2.2.2.1]
    refine ⟨⟨⟨by omega, by omega⟩, ⟨by omega, by omega⟩⟩, fun h => by omega, fun _ => ?_⟩
    have := ih (k + 1) (fx_lor x (fx_lshl (fx_lshl 1 Z.2.2.1 - 1) (4 * (k : Int)))) (by omega) ⟨in64_lor _ _, fun i hi => ?_⟩ K
    · rw [show ((k + 1 : Nat) : Int) = (k : Int) + 1 by omega] at this
      exact this
    · rw [lbit_lor, hx.2 i hi, show Z.2.2.1 = ((Z.2.2.1.toNat : Nat) : Int) by omega, lbit_free (by omega) (by omega) i hi]
      unfold s_part
      rw [Int.toNat_natCast]
      have p0 : 0 < 2 ^ Z.2.2.1.toNat := Nat.pos_of_ne_zero (by simp)
      by_cases h1 : i / 4 = k
      · have h40 : i < 40 := by omega
        rw [if_neg (by omega), if_pos (by omega)]
        have h2 : ∀ (s : Fin 5) (j : Fin 4), 1 ≤ (s : Nat) → ((1 : Nat).testBit (j : Nat) || (2 ^ (s : Nat) - 1).testBit (j : Nat)) = (2 ^ (s : Nat) - 1).testBit (j : Nat) := by decide +kernel
        have := h2 ⟨Z.2.2.1.toNat, by omega⟩ ⟨i % 4, by omega⟩ (by show 1 ≤ Z.2.2.1.toNat; omega)
        simp only at this
        rw [decide_eq_true h40, decide_eq_true h1, Bool.true_and, Bool.true_and, this]
      · rw [decide_eq_false h1, Bool.false_and, Bool.or_false]
        by_cases h2 : i / 4 < k
        · rw [if_pos h2, if_pos (by omega)]
        · rw [if_neg h2, if_neg (by omega)]
/-- free -/
theorem sp_free (Hp : fx_puz p) (hz : cz M p Z) (ho : pz_ok Z) (K : ∀ y, sta y (s_free Z) → Q (some (jL y)) M) : wc kc (d + 1) 82 [jR p] M Q := by
  have h9 := pz_n ho
  refine s82 Hp (free_loop Hp hz ho (Z.1 * Z.2.1).toNat 0 73300775185 (by omega) ⟨⟨by omega, by omega⟩, fun i hi => ?_⟩ K)
  have := each1_bits ⟨i, hi⟩
  simp only at this
  rw [this]
  unfold s_part
  rw [if_neg (by omega)]
/-- only, may -/
theorem sp_only {x : Int} {S : Nat → Nat} {c s : Int} (h : sta x S) (hc : 0 ≤ c ∧ c < 10) (hs : 0 ≤ s ∧ s < 4) (K : ∀ y, sta y (s_only S c.toNat s.toNat) → Q (some (jL y)) M) : wc kc (d + 1) 83 [jL x, jI c, jI s] M Q := s83 (K _ (sta_only h hc hs))
theorem sp_may {x : Int} {S : Nat → Nat} {c : Int} (h : sta x S) (hc : 0 ≤ c ∧ c < 10) (hS : S c.toNat < 16) (K : Q (some (jI (S c.toNat : Nat))) M) : wc kc (d + 1) 86 [jL x, jI c] M Q := by
  refine s86 ?_
  rw [sta_may h hc hS]
  exact K
def s_fst (Z : PZ) (k : Nat) : Nat → Nat := fun c => if c < k then s_first Z c else s_free Z c
theorem first_loop (Hp : fx_puz p) (hz : cz M p Z) (ho : pz_ok Z) : ∀ (t k : Nat) (x : Int), (k : Int) + t = Z.1 * Z.2.1 → sta x (s_fst Z k) → (∀ y, sta y (s_first Z) → Q (some (jL y)) M) → wp kc (d + 2) 81 7 [some (jR p), some (jL x), none, some (jI k)] [] M Q := by
  have h9 := pz_n ho
  intro t
  induction t with
  | zero =>
    intro k x hk hx K
    refine s81_7 Hp ?_
    rw [hz.2.2.1]
    refine ⟨⟨⟨by omega, by omega⟩, ⟨by omega, by omega⟩⟩, fun _ => K x (sta_ext hx (fun c hc => ?_)), fun h => by omega⟩
    unfold s_fst
    by_cases hck : c < k
    · rw [if_pos hck]
    · rw [if_neg hck]
      unfold s_first s_free
      rw [if_neg (by omega), if_neg (by omega)]
  | succ t ih =>
    intro k x hk hx K
    have hgb := giv_b ho (c := k) (by omega)
    have hgv := hz.2.2.2.2.2.2.1 k (by omega)
    have e1 : ((k + 1 : Nat) : Int) = (k : Int) + 1 := by omega
    refine s81_7 Hp ?_
    rw [hz.2.2.1, hgv]
    refine ⟨⟨⟨by omega, by omega⟩, ⟨by omega, by omega⟩⟩, fun h => by omega, fun _ => ⟨⟨by omega, by omega⟩, ⟨by omega, by omega⟩, fun hn => ?_, fun hp => ⟨⟨by omega, by omega⟩, sp_only hx (by omega) (by omega) (fun y hy => s81_35 Hp ?_)⟩⟩⟩
    · have := ih (k + 1) x (by omega) (sta_ext hx (fun c hc => ?_)) K
      · rw [e1] at this
        exact this
      · unfold s_fst
        by_cases h1 : c = k
        · rw [if_neg (by omega), if_pos (by omega), h1]
          unfold s_first s_free
          rw [if_pos (by omega), if_pos (by omega), if_neg (by omega)]
        · by_cases h2 : c < k
          · rw [if_pos h2, if_pos (by omega)]
          · rw [if_neg h2, if_neg (by omega)]
    · have := ih (k + 1) y (by omega) (sta_ext hy (fun c hc => ?_)) K
      · rw [e1] at this
        exact this
      · unfold s_only s_fst
        rw [Int.toNat_natCast]
        by_cases h1 : c = k
        · rw [if_pos h1, if_pos (by omega), h1]
          unfold s_first
          rw [if_pos (by omega), if_pos hp]
        · rw [if_neg h1]
          by_cases h2 : c < k
          · rw [if_pos h2, if_pos (by omega)]
          · rw [if_neg h2, if_neg (by omega)]
/-- first -/
theorem sp_first (Hp : fx_puz p) (hz : cz M p Z) (ho : pz_ok Z) (K : ∀ y, sta y (s_first Z) → Q (some (jL y)) M) : wc kc (d + 2) 81 [jR p] M Q := by
  have h9 := pz_n ho
  refine s81 Hp (sp_free Hp hz ho (fun y hy => s81_4 Hp (first_loop Hp hz ho (Z.1 * Z.2.1).toNat 0 y (by omega) (sta_ext hy (fun c hc => ?_)) K)))
  unfold s_fst
  rw [if_neg (by omega)]
end STF
