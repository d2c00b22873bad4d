/-! WAYS: the ways within a standing as a list; what masks of longs say of them. -/
/-- the symbols of a set, rising -/
def sym4 (m : Nat) : List Int := ((List.range 4).filter m.testBit).map Int.ofNat
/-- all rows of symbols, the last one fastest -/
def prd : List Nat → List (List Int)
  | [] => [[]]
  | m :: ms => (sym4 m).flatMap fun x => (prd ms).map (x :: ·)
def msk (S : Nat → Nat) (l : List Int) : List Nat := l.map fun c => S c.toNat
/-- whether a rule has a way within a standing -/
def canM (w : Int) (R : PR) (S : Nat → Nat) : Bool := (prd (msk S R.2.2)).any (met w R)
theorem sym4_mem {m : Nat} {x : Int} : x ∈ sym4 m ↔ 0 ≤ x ∧ x < 4 ∧ m.testBit x.toNat = true := by
  unfold sym4
  rw [List.mem_map]
  constructor
  · rintro ⟨a, ha, rfl⟩
    rw [List.mem_filter, List.mem_range] at ha
    exact ⟨by show (0 : Int) ≤ (a : Int); omega, by show (a : Int) < 4; omega, ha.2⟩
  · rintro ⟨h0, h4, hb⟩
    refine ⟨x.toNat, ?_, by show ((x.toNat : Nat) : Int) = x; omega⟩
    rw [List.mem_filter, List.mem_range]
    exact ⟨by omega, hb⟩
theorem prd_mem : ∀ {ms : List Nat} {xs : List Int}, xs ∈ prd ms ↔ xs.length = ms.length ∧ ∀ i : Nat, i < ms.length → xs.getD i 0 ∈ sym4 (ms.getD i 0)
  | [], xs => by
    unfold prd
    rw [List.mem_singleton]
    constructor
    · rintro rfl
      exact ⟨rfl, fun i hi => absurd hi (by simp)⟩
    · rintro ⟨h, -⟩
      exact List.length_eq_zero_iff.mp h
  | m :: ms, xs => by
    unfold prd
    rw [List.mem_flatMap]
    constructor
    · rintro ⟨x, hx, hxs⟩
      rw [List.mem_map] at hxs
      obtain ⟨ys, hys, rfl⟩ := hxs
      obtain ⟨h1, h2⟩ := prd_mem.mp hys
      refine ⟨by simp [h1], fun i hi => ?_⟩
      cases i with
      | zero => exact hx
      | succ i => exact h2 i (by simpa using hi)
    · rintro ⟨h1, h2⟩
      cases xs with
      | nil => simp at h1
      | cons y ys =>
        refine ⟨y, h2 0 (by simp), ?_⟩
        rw [List.mem_map]
        refine ⟨ys, prd_mem.mpr ⟨by simpa using h1, fun i hi => h2 (i + 1) (by simpa using hi)⟩, rfl⟩
theorem wyx_len (n w : Nat) : (wyx n w).length = n := by simp [wyx]
theorem wyx_cons (n w : Nat) : wyx (n + 1) w = ((w % 4 : Nat) : Int) :: wyx n (w / 4) := by
  unfold wyx
  rw [List.range_succ_eq_map, List.map_cons, List.map_map]
  congr 1
  · rw [Nat.pow_zero, Nat.div_one]
  · apply List.map_congr_left
    intro i _
    show ((w / 4 ^ (i + 1) % 4 : Nat) : Int) = _
    rw [Nat.pow_succ, Nat.mul_comm (4 ^ i) 4, Nat.div_div_eq_div_mul]
theorem wyx_get {n w i : Nat} (hi : i < n) : (wyx n w).getD i 0 = ((w / 4 ^ i % 4 : Nat) : Int) := by
  unfold wyx
  rw [List.getD_eq_getElem?_getD, List.getElem?_map, List.getElem?_range hi]
  rfl
theorem wyx_sur : ∀ (n : Nat) (xs : List Int), xs.length = n → (∀ x ∈ xs, 0 ≤ x ∧ x < 4) → ∃ w, w < 4 ^ n ∧ wyx n w = xs
  | 0, xs, h, _ => ⟨0, by decide, by rw [List.length_eq_zero_iff.mp h]; rfl⟩
  | n + 1, [], h, _ => by simp at h
  | n + 1, x :: xs, h, hx => by
    obtain ⟨w, hw, he⟩ := wyx_sur n xs (by simpa using h) (fun y hy => hx y (List.mem_cons_of_mem _ hy))
    have h0 := hx x List.mem_cons_self
    refine ⟨x.toNat + 4 * w, ?_, ?_⟩
    · rw [Nat.pow_succ]
      omega
    · rw [wyx_cons, show (x.toNat + 4 * w) / 4 = w by omega, he, show (((x.toNat + 4 * w) % 4 : Nat) : Int) = x by omega]
/-- a way is within a standing -/
theorem wyx_prd {S : Nat → Nat} {l : List Int} {w : Nat} : wyx l.length w ∈ prd (msk S l) ↔ ∀ i : Nat, i < l.length → (S (l.getD i 0).toNat).testBit (w / 4 ^ i % 4) = true := by
  rw [prd_mem]
  have hl : (msk S l).length = l.length := by simp [msk]
  constructor
  · rintro ⟨_, h⟩ i hi
    have := h i (by omega)
    rw [wyx_get hi] at this
    have hg : (msk S l).getD i 0 = S (l.getD i 0).toNat := by
      unfold msk
      rw [List.getD_eq_getElem?_getD, List.getElem?_map, List.getD_eq_getElem?_getD, List.getElem?_eq_getElem hi]
      rfl
    rw [hg] at this
    exact (sym4_mem.mp this).2.2
  · intro h
    refine ⟨by rw [wyx_len, hl], fun i hi => ?_⟩
    rw [hl] at hi
    rw [wyx_get hi]
    have hg : (msk S l).getD i 0 = S (l.getD i 0).toNat := by
      unfold msk
      rw [List.getD_eq_getElem?_getD, List.getElem?_map, List.getD_eq_getElem?_getD, List.getElem?_eq_getElem hi]
      rfl
    rw [hg]
    refine sym4_mem.mpr ⟨by omega, by omega, ?_⟩
    rw [Int.toNat_natCast]
    exact h i hi
theorem prd_wyx {S : Nat → Nat} {l xs : List Int} (h : xs ∈ prd (msk S l)) : ∃ w, w < 4 ^ l.length ∧ wyx l.length w = xs := by
  have h2 := prd_mem.mp h
  have hl : (msk S l).length = l.length := by simp [msk]
  refine wyx_sur l.length xs (by rw [h2.1, hl]) (fun x hx => ?_)
  obtain ⟨i, hi, rfl⟩ := List.mem_iff_getElem.mp hx
  have := h2.2 i (by omega)
  rw [show xs.getD i 0 = xs[i] by rw [List.getD_eq_getElem?_getD, List.getElem?_eq_getElem hi]; rfl] at this
  have := sym4_mem.mp this
  exact ⟨this.1, this.2.1⟩
/-- the masks of longs -/
theorem xA0_bit : ∀ (m : Fin 16) (i : Fin 64), lbit (xA0.getD (m : Nat) 0).toInt (i : Nat) = (m : Nat).testBit ((i : Nat) % 4) := by decide +kernel
theorem xA1_bit : ∀ (m : Fin 16) (i : Fin 64), lbit (xA1.getD (m : Nat) 0).toInt (i : Nat) = (m : Nat).testBit ((i : Nat) / 4 % 4) := by decide +kernel
theorem xA2_bit : ∀ (m : Fin 16) (i : Fin 64), lbit (xA2.getD (m : Nat) 0).toInt (i : Nat) = (m : Nat).testBit ((i : Nat) / 16) := by decide +kernel
/-- within: of 64 ways those of three sets of symbols -/
noncomputable def wthn (a b c : Nat) : Int := fx_land (fx_land (xA0.getD a 0).toInt (xA1.getD b 0).toInt) (xA2.getD c 0).toInt
theorem wthn_bit {a b c : Nat} (ha : a < 16) (hb : b < 16) (hc : c < 16) {i : Nat} (hi : i < 64) : lbit (wthn a b c) i = (a.testBit (i % 4) && b.testBit (i / 4 % 4) && c.testBit (i / 16)) := by
  unfold wthn
  have h0 := xA0_bit ⟨a, ha⟩ ⟨i, hi⟩
  have h1 := xA1_bit ⟨b, hb⟩ ⟨i, hi⟩
  have h2 := xA2_bit ⟨c, hc⟩ ⟨i, hi⟩
  simp only at h0 h1 h2
  rw [lbit_land, lbit_land, h0, h1, h2]
/-- the set of symbols of a rule's i-th cell, and 1 for none -/
def mki (S : Nat → Nat) (l : List Int) (i : Nat) : Nat := S (l.getD i 9).toNat
/-- the ways of a rule with a fourth symbol within a standing -/
noncomputable def wyk (M : fx_M) (p : Nat) (S : Nat → Nat) (R : PR) (r k : Nat) : Int := if (mki S R.2.2 3).testBit k = true then fx_land (M (p + 7) (4 * (r : Int) + k)) (wthn (mki S R.2.2 0) (mki S R.2.2 1) (mki S R.2.2 2)) else 0
theorem wyk_in {M : fx_M} {p : Nat} {S : Nat → Nat} {R : PR} {r k : Nat} : fx_in64 (wyk M p S R r k) := by
  unfold wyk
  split
  · exact in64_land _ _
  · exact ⟨by omega, by omega⟩
theorem mki_16 {Z : PZ} {S : Nat → Nat} (ho : pz_ok Z) (hs : s_ok Z S) {R : PR} (hR : pr_ok (Z.1 * Z.2.1) R) (i : Nat) : mki S R.2.2 i < 16 := by
  have h9 := pz_n ho
  unfold mki
  refine s_ok_16 ho hs ?_
  by_cases hi : i < R.2.2.length
  · have hm : R.2.2.getD i 9 ∈ R.2.2 := by
      rw [List.getD_eq_getElem?_getD, List.getElem?_eq_getElem hi]
      exact List.getElem_mem hi
    have := hR.2.2.2.2.2.2.1 _ hm
    omega
  · rw [List.getD_eq_getElem?_getD, List.getElem?_eq_none (by omega)]
    decide
theorem getD_09 {l : List Int} {i : Nat} (hi : i < l.length) : l.getD i 9 = l.getD i 0 := by
  rw [List.getD_eq_getElem?_getD, List.getD_eq_getElem?_getD, List.getElem?_eq_getElem hi]
  rfl
/-- a bit of the ways: a way within the standing that meets the rule -/
theorem wyk_bit {M : fx_M} {p : Nat} {Z : PZ} {S : Nat → Nat} {R : PR} {r k i : Nat} (ho : pz_ok Z) (hs : s_ok Z S) (hR : pr_ok (Z.1 * Z.2.1) R) (hy : wy_ok Z.1 Z.2.2.1 R k (M (p + 7) (4 * (r : Int) + k))) (hk : k < 4) (hi : i < 64) : lbit (wyk M p S R r k) i = true ↔ i + 64 * k < 4 ^ R.2.2.length ∧ wyx R.2.2.length (i + 64 * k) ∈ prd (msk S R.2.2) ∧ met Z.1 R (wyx R.2.2.length (i + 64 * k)) = true := by
  have h9 := pz_n ho
  obtain ⟨y1, y2⟩ := hy
  have m0 := mki_16 ho hs hR 0
  have m1 := mki_16 ho hs hR 1
  have m2 := mki_16 ho hs hR 2
  have hl4 := hR.2.2.2.2.2.1
  have hl1 := hR.2.2.2.2.1
  have hdig : (i + 64 * k) / 4 ^ 0 % 4 = i % 4 ∧ (i + 64 * k) / 4 ^ 1 % 4 = i / 4 % 4 ∧ (i + 64 * k) / 4 ^ 2 % 4 = i / 16 ∧ (i + 64 * k) / 4 ^ 3 % 4 = k := by
    refine ⟨by omega, by omega, ?_, ?_⟩
    · show (i + 64 * k) / 16 % 4 = i / 16
      omega
    · show (i + 64 * k) / 64 % 4 = k
      omega
  have hmk : ∀ j : Nat, R.2.2.length ≤ j → mki S R.2.2 j = 1 := fun j hj => by
    unfold mki
    rw [List.getD_eq_getElem?_getD, List.getElem?_eq_none hj]
    exact (hs 9 (by decide)).2 (by omega)
  have hmk2 : ∀ j : Nat, j < R.2.2.length → mki S R.2.2 j = S (R.2.2.getD j 0).toNat := fun j hj => by
    unfold mki
    rw [getD_09 hj]
  unfold wyk
  constructor
  · intro hb
    by_cases h3 : (mki S R.2.2 3).testBit k = true
    · rw [if_pos h3, lbit_land, y2 i hi, wthn_bit m0 m1 m2 hi] at hb
      simp only [Bool.and_eq_true, decide_eq_true_eq] at hb
      obtain ⟨⟨⟨b1, b2⟩, b3⟩, ⟨⟨b4, b5⟩, b6⟩⟩ := hb
      refine ⟨b1, wyx_prd.mpr (fun j hj => ?_), b3⟩
      rw [← hmk2 j hj]
      have hj4 : j = 0 ∨ j = 1 ∨ j = 2 ∨ j = 3 := by omega
      rcases hj4 with rfl | rfl | rfl | rfl
      · rw [hdig.1]; exact b4
      · rw [hdig.2.1]; exact b5
      · rw [hdig.2.2.1]; exact b6
      · rw [hdig.2.2.2]; exact h3
    · rw [if_neg h3, lbit_0] at hb
      exact absurd hb (by decide)
  · rintro ⟨b1, b2, b3⟩
    rw [wyx_prd] at b2
    have hall : ∀ j : Nat, j < 4 → (mki S R.2.2 j).testBit ((i + 64 * k) / 4 ^ j % 4) = true := fun j hj => by
      by_cases hjl : j < R.2.2.length
      · rw [hmk2 j hjl]
        exact b2 j hjl
      · rw [hmk j (by omega)]
        have hz : (i + 64 * k) / 4 ^ j = 0 := Nat.div_eq_of_lt (Nat.lt_of_lt_of_le b1 (Nat.pow_le_pow_right (by decide) (by omega)))
        rw [hz]
        rfl
    have h3 := hall 3 (by decide)
    rw [hdig.2.2.2] at h3
    have h0 := hall 0 (by decide)
    rw [hdig.1] at h0
    have h1 := hall 1 (by decide)
    rw [hdig.2.1] at h1
    have h2 := hall 2 (by decide)
    rw [hdig.2.2.1] at h2
    rw [if_pos h3, lbit_land, y2 i hi, wthn_bit m0 m1 m2 hi, h0, h1, h2, b3, decide_eq_true b1]
    simp only [Bool.and_true, Bool.true_and]
    rw [List.all_eq_true]
    intro x hx
    obtain ⟨j, hj, rfl⟩ := List.mem_iff_getElem.mp hx
    rw [wyx_len] at hj
    have hv : (wyx R.2.2.length (i + 64 * k))[j] = ((((i + 64 * k) / 4 ^ j % 4 : Nat)) : Int) := by
      have := wyx_get (n := R.2.2.length) (w := i + 64 * k) hj
      rw [List.getD_eq_getElem?_getD, List.getElem?_eq_getElem (by rw [wyx_len]; exact hj)] at this
      exact this
    rw [hv]
    have hbit := b2 j hj
    have hm : R.2.2.getD j 0 ∈ R.2.2 := by
      rw [List.getD_eq_getElem?_getD, List.getElem?_eq_getElem hj]
      exact List.getElem_mem hj
    have hc := hR.2.2.2.2.2.2.1 _ hm
    have hlt := (hs (R.2.2.getD j 0).toNat (by omega)).1 (by omega)
    have o5 := ho.2.2.2.2.1
    simp only [decide_eq_true_eq]
    have : (i + 64 * k) / 4 ^ j % 4 < Z.2.2.1.toNat := by
      by_cases hge : (i + 64 * k) / 4 ^ j % 4 < Z.2.2.1.toNat
      · exact hge
      · have := Nat.testBit_lt_two_pow (Nat.lt_of_lt_of_le hlt (Nat.pow_le_pow_right (by decide) (show Z.2.2.1.toNat ≤ (i + 64 * k) / 4 ^ j % 4 by omega)))
        rw [this] at hbit
        exact absurd hbit (by decide)
    omega
/-- some ways are left when the rule can be met -/
theorem wyk_can {M : fx_M} {p : Nat} {Z : PZ} {S : Nat → Nat} {R : PR} {r : Nat} (ho : pz_ok Z) (hs : s_ok Z S) (hR : pr_ok (Z.1 * Z.2.1) R) (hy : ∀ k : Nat, k < 4 → wy_ok Z.1 Z.2.2.1 R k (M (p + 7) (4 * (r : Int) + k))) : canM Z.1 R S = true ↔ ∃ k, k < 4 ∧ wyk M p S R r k ≠ 0 := by
  have hl4 := hR.2.2.2.2.2.1
  unfold canM
  rw [List.any_eq_true]
  constructor
  · rintro ⟨xs, hx, hm⟩
    obtain ⟨w, hw, rfl⟩ := prd_wyx hx
    have hw256 : w < 256 := Nat.lt_of_lt_of_le hw (Nat.pow_le_pow_right (n := 4) (by decide) (show _ ≤ 4 from hl4))
    refine ⟨w / 64, by omega, ?_⟩
    rw [lbit_ne0 wyk_in]
    refine ⟨w % 64, by omega, ?_⟩
    rw [wyk_bit ho hs hR (hy _ (by omega)) (by omega) (by omega), show w % 64 + 64 * (w / 64) = w by omega]
    exact ⟨hw, hx, hm⟩
  · rintro ⟨k, hk, hne⟩
    rw [lbit_ne0 wyk_in] at hne
    obtain ⟨i, hi, hb⟩ := hne
    rw [wyk_bit ho hs hR (hy _ hk) hk hi] at hb
    exact ⟨_, hb.2.1, hb.2.2⟩
