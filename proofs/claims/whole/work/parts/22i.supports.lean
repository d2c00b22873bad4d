/-! supports of the class. -/
/-- whether the i-th cell of a rule has the symbol x by a way within a standing -/
def sup (w : Int) (R : PR) (S : Nat → Nat) (i x : Nat) : Bool := (prd (msk S R.2.2)).any fun xs => met w R xs && decide (xs.getD i 0 = (x : Int))
theorem wyx_dig {n w j : Nat} (hw : w < 4 ^ n) : (wyx n w).getD j 0 = ((w / 4 ^ j % 4 : Nat) : Int) := by
  by_cases hj : j < n
  · exact wyx_get hj
  · rw [List.getD_eq_getElem?_getD, List.getElem?_eq_none (by rw [wyx_len]; omega), Nat.div_eq_of_lt (Nat.lt_of_lt_of_le hw (Nat.pow_le_pow_right (by decide) (by omega)))]
    rfl
theorem sup_wyk {M : fx_M} {p : Nat} {Z : PZ} {S : Nat → Nat} {R : PR} {r : Nat} (ho : pz_ok Z) (hs : s_ok Z S) (hR : pr_ok (Z.1 * Z.2.1) R) (hy : ∀ k : Nat, k < 4 → wy_ok Z.1 Z.2.2.1 R k (M (p + 7) (4 * (r : Int) + k))) {j x : Nat} : sup Z.1 R S j x = true ↔ ∃ k i, k < 4 ∧ i < 64 ∧ lbit (wyk M p S R r k) i = true ∧ (i + 64 * k) / 4 ^ j % 4 = x := by
  have hl4 := hR.2.2.2.2.2.1
  unfold sup
  rw [List.any_eq_true]
  constructor
  · rintro ⟨xs, hx, hm⟩
    obtain ⟨w, hw, rfl⟩ := prd_wyx hx
    rw [Bool.and_eq_true, decide_eq_true_eq, wyx_dig hw] at hm
    have hw256 : w < 256 := Nat.lt_of_lt_of_le hw (Nat.pow_le_pow_right (n := 4) (by decide) (show _ ≤ 4 from hl4))
    refine ⟨w / 64, w % 64, by omega, by omega, ?_, ?_⟩
    · rw [wyk_bit ho hs hR (hy _ (by omega)) (by omega) (by omega), show w % 64 + 64 * (w / 64) = w by omega]
      exact ⟨hw, hx, hm.1⟩
    · rw [show w % 64 + 64 * (w / 64) = w by omega]
      have := hm.2
      omega
  · rintro ⟨k, i, hk, hi, hb, hd⟩
    rw [wyk_bit ho hs hR (hy _ hk) hk hi] at hb
    refine ⟨_, hb.2.1, ?_⟩
    rw [Bool.and_eq_true, decide_eq_true_eq, wyx_dig hb.1]
    exact ⟨hb.2.2, by omega⟩
theorem shl_4096 : ∀ k : Fin 4, fx_shl 4096 ((k : Nat) : Int) = ((2 ^ (12 + (k : Nat)) : Nat) : Int) := by decide +kernel
theorem shl_256 : ∀ k : Fin 4, fx_shl 256 ((k : Nat) : Int) = ((2 ^ (8 + (k : Nat)) : Nat) : Int) := by decide +kernel
theorem shl_16 : ∀ k : Fin 4, fx_shl 16 ((k : Nat) : Int) = ((2 ^ (4 + (k : Nat)) : Nat) : Int) := by decide +kernel
theorem shl_one : ∀ k : Fin 4, fx_shl 1 ((k : Nat) : Int) = ((2 ^ (k : Nat) : Nat) : Int) := by decide +kernel
/-- a bit more, or not -/
theorem or_bit {f : Nat} (hf : f < 65536) {b : Nat} (hb : b < 16) {c : Prop} [Decidable c] : ∃ g : Nat, g < 65536 ∧ fx_or (f : Int) (if c then (0 : Int) else ((2 ^ b : Nat) : Int)) = (g : Int) ∧ ∀ i, g.testBit i = true ↔ f.testBit i = true ∨ (i = b ∧ ¬ c) := by
  have hp : 2 ^ b < 65536 := Nat.pow_lt_pow_right (by decide) (show b < 16 from hb)
  have hbit := pow_bit b
  generalize 2 ^ b = P at hp hbit
  by_cases h : c
  · refine ⟨f, hf, ?_, fun i => ?_⟩
    · rw [if_pos h, fx_or_nat (by omega) (by omega), Int.toNat_natCast, Int.toNat_zero, Nat.or_zero]
    · simp [h]
  · refine ⟨f ||| P, Nat.or_lt_two_pow (n := 16) hf hp, ?_, fun i => ?_⟩
    · rw [if_neg h, fx_or_nat (by omega) (by omega), Int.toNat_natCast, Int.toNat_natCast]
    · rw [Nat.testBit_or, hbit]
      simp [h]
section SUP
variable {L : Nat} {xs : Nat → Int32} {d p : Nat} {M : fx_M} {Q : Option fx_V → fx_M → Prop} {Z : PZ} {S : Nat → Nat}
/-- the second loop: v holds all ways -/
theorem sup_snd (Hp : fx_puz p) {v : Int} (hv : fx_in64 v) : ∀ (n k f : Nat), k + n = 4 → f < 65536 → (∀ g : Nat, g < 65536 → (∀ b : Nat, g.testBit b = true ↔ (f.testBit b = true ∨ ((b < 12 ∧ k ≤ b % 4) ∧ ∃ i, i < 64 ∧ lbit v i = true ∧ i / 4 ^ (b / 4) % 4 = b % 4))) → Q (some (jI g)) M) → wp (kcs L xs) (d + 1) 111 171 [none, none, none, none, none, none, none, none, some (jL v), none, some (jI f), some (jI k), none, none] [] M Q := by
  intro n
  induction n with
  | zero =>
    intro k f hk hf K
    refine s111_171 Hp ⟨⟨by omega, by omega⟩, fun _ => K f hf (fun b => ?_), fun h => by omega⟩
    constructor
    · exact Or.inl
    · rintro (h | ⟨h, _⟩)
      · exact h
      · omega
  | succ n ih =>
    intro k f hk hf K
    refine s111_171 Hp ⟨⟨by omega, by omega⟩, fun h => by omega, fun _ => ⟨hv, fun h0 => K f hf (fun b => ?_), fun hne => ?_⟩⟩
    · have v0 := (cmp0 hv).mp h0
      constructor
      · exact Or.inl
      · rintro (h | ⟨_, i, _, hb, _⟩)
        · exact h
        · rw [v0, lbit_0] at hb
          exact absurd hb (by decide)
    · have e1 := shl_one ⟨k, by omega⟩
      have e2 := shl_16 ⟨k, by omega⟩
      have e3 := shl_256 ⟨k, by omega⟩
      simp only at e1 e2 e3
      have hpk : 2 ^ k < 16 := Nat.pow_lt_pow_right (by decide) (show k < 4 by omega)
      have hk0 : (0 : Int) ≤ ((2 ^ k : Nat) : Int) := Int.natCast_nonneg _
      have hk1 : ((2 ^ k : Nat) : Int) < 16 := Int.ofNat_lt.mpr hpk
      rw [e1, e2, e3, Int.toNat_natCast]
      have q : ∀ (A : Int) (s : Nat), (∀ i : Nat, i < 64 → lbit A i = (2 ^ k).testBit (i / 4 ^ s % 4)) → ((¬ fx_cmp (fx_land v A) 0 = 0) ↔ ∃ i, i < 64 ∧ lbit v i = true ∧ i / 4 ^ s % 4 = k) := fun A s hA => by
        rw [cmp0 (in64_land _ _)]
        show fx_land v A ≠ 0 ↔ _
        rw [lbit_ne0 (in64_land _ _)]
        constructor
        · rintro ⟨i, hi, hb⟩
          rw [lbit_land, hA i hi, pow_bit, Bool.and_eq_true, decide_eq_true_eq] at hb
          exact ⟨i, hi, hb.1, hb.2⟩
        · rintro ⟨i, hi, hb, hd⟩
          refine ⟨i, hi, ?_⟩
          rw [lbit_land, hA i hi, pow_bit, Bool.and_eq_true, decide_eq_true_eq]
          exact ⟨hb, hd⟩
      have q0 := q ((xA0.getD (2 ^ k) 0).toInt) 0 (fun i hi => by
        have := xA0_bit ⟨2 ^ k, hpk⟩ ⟨i, hi⟩
        simp only at this
        rw [this, Nat.pow_zero, Nat.div_one])
      have q1 := q ((xA1.getD (2 ^ k) 0).toInt) 1 (fun i hi => by
        have := xA1_bit ⟨2 ^ k, hpk⟩ ⟨i, hi⟩
        simp only at this
        rw [this, Nat.pow_one])
      have q2 := q ((xA2.getD (2 ^ k) 0).toInt) 2 (fun i hi => by
        have := xA2_bit ⟨2 ^ k, hpk⟩ ⟨i, hi⟩
        simp only at this
        rw [this, show i / 4 ^ 2 % 4 = i / 16 by omega])
      obtain ⟨g0, h0, hg0, b0⟩ := or_bit hf (b := k) (by omega) (c := fx_cmp (fx_land v ((xA0.getD (2 ^ k) 0).toInt)) 0 = 0)
      obtain ⟨g1, h1, hg1, b1⟩ := or_bit h0 (b := 4 + k) (by omega) (c := fx_cmp (fx_land v ((xA1.getD (2 ^ k) 0).toInt)) 0 = 0)
      obtain ⟨g2, h2, hg2, b2⟩ := or_bit h1 (b := 8 + k) (by omega) (c := fx_cmp (fx_land v ((xA2.getD (2 ^ k) 0).toInt)) 0 = 0)
      rw [hg0, hg1, hg2]
      refine ⟨⟨⟨hk0, hk1⟩, kA0⟩, in64_land _ _, ⟨⟨hk0, hk1⟩, kA1⟩, in64_land _ _, ⟨⟨hk0, hk1⟩, kA2⟩, in64_land _ _, ?_⟩
      have nx := ih (k + 1) g2 (by omega) h2 (fun g hg hb => K g hg (fun b => ?_))
      · rw [show ((k + 1 : Nat) : Int) = (k : Int) + 1 by omega] at nx
        exact nx
      · rw [hb b, b2 b, b1 b, b0 b, q0, q1, q2]
        constructor
        · rintro ((((h | ⟨rfl, h⟩) | ⟨rfl, h⟩) | ⟨rfl, h⟩) | ⟨h, h3⟩)
          · exact Or.inl h
          · right
            rw [show b / 4 = 0 by omega, show b % 4 = b by omega]
            exact ⟨by omega, h⟩
          · right
            rw [show (4 + k) / 4 = 1 by omega, show (4 + k) % 4 = k by omega]
            exact ⟨by omega, h⟩
          · right
            rw [show (8 + k) / 4 = 2 by omega, show (8 + k) % 4 = k by omega]
            exact ⟨by omega, h⟩
          · exact Or.inr ⟨by omega, h3⟩
        · rintro (h | ⟨h, h3⟩)
          · exact Or.inl (Or.inl (Or.inl (Or.inl h)))
          · by_cases hbk : b % 4 = k
            · rw [hbk] at h3
              have hq : b / 4 = 0 ∨ b / 4 = 1 ∨ b / 4 = 2 := by omega
              rcases hq with hq | hq | hq
              · rw [hq] at h3
                exact Or.inl (Or.inl (Or.inl (Or.inr ⟨by omega, h3⟩)))
              · rw [hq] at h3
                exact Or.inl (Or.inl (Or.inr ⟨by omega, h3⟩))
              · rw [hq] at h3
                exact Or.inl (Or.inr ⟨by omega, h3⟩)
            · exact Or.inr ⟨by omega, h3⟩
theorem sup_fst (Hp : fx_puz p) {R : PR} {r : Nat} (hr : r < 12) (m3 : mki S R.2.2 3 < 16) : ∀ (n k f : Nat) (v : Int), k + n = 4 → f < 65536 → fx_in64 v → (∀ i : Nat, i < 64 → (lbit v i = true ↔ ∃ j, j < k ∧ lbit (wyk M p S R r j) i = true)) → (∀ b : Nat, f.testBit b = true ↔ ((12 ≤ b ∧ b < 12 + k) ∧ wyk M p S R r (b - 12) ≠ 0)) → (∀ (g : Nat) (u : Int), g < 65536 → fx_in64 u → (∀ i : Nat, i < 64 → (lbit u i = true ↔ ∃ j, j < 4 ∧ lbit (wyk M p S R r j) i = true)) → (∀ b : Nat, g.testBit b = true ↔ ((12 ≤ b ∧ b < 12 + 4) ∧ wyk M p S R r (b - 12) ≠ 0)) → wp (kcs L xs) (d + 1) 111 171 [none, none, none, none, none, none, none, none, some (jL u), none, some (jI g), some (jI 0), none, none] [] M Q) → wp (kcs L xs) (d + 1) 111 98 [some (jR p), none, none, none, some (jI (4 * (r : Int))), some (jL (wthn (mki S R.2.2 0) (mki S R.2.2 1) (mki S R.2.2 2))), none, some (jI (mki S R.2.2 3 : Nat)), some (jL v), none, some (jI f), some (jI k), none, none] [] M Q := by
  intro n
  induction n with
  | zero =>
    intro k f v hk hf hv hb hfb K
    have hk4 : k = 4 := by omega
    subst hk4
    exact s111_98 Hp ⟨⟨by omega, by omega⟩, fun _ => K f v hf hv hb hfb, fun h => by omega⟩
  | succ n ih =>
    intro k f v hk hf hv hb hfb K
    have e := sm_bit ⟨mki S R.2.2 3, m3⟩ ⟨k, by omega⟩
    simp only at e
    have eb : 0 ≤ (if (mki S R.2.2 3).testBit k = true then (1 : Int) else 0) ∧ (if (mki S R.2.2 3).testBit k = true then (1 : Int) else 0) ≤ 1 := by split <;> omega
    have e4 := shl_4096 ⟨k, by omega⟩
    simp only at e4
    have hw : (if (if (mki S R.2.2 3).testBit k = true then (1 : Int) else 0) = 0 then (0 : Int) else fx_land (M (p + 7) (4 * (r : Int) + (k : Int))) (wthn (mki S R.2.2 0) (mki S R.2.2 1) (mki S R.2.2 2))) = wyk M p S R r k := by
      unfold wyk
      by_cases hb : (mki S R.2.2 3).testBit k = true
      · rw [if_pos hb, if_pos hb, if_neg (by decide)]
      · rw [if_neg hb, if_neg hb, if_pos rfl]
    obtain ⟨g, hg, hge, hgb⟩ := or_bit hf (b := 12 + k) (by omega) (c := fx_cmp (wyk M p S R r k) 0 = 0)
    refine s111_98 Hp ?_
    rw [e, e4, hw, hge]
    refine ⟨⟨by omega, by omega⟩, fun h => by omega, fun _ => ⟨⟨by omega, by omega⟩, fun _ => ⟨by omega, by omega⟩, wyk_in, ?_⟩⟩
    have nx := ih (k + 1) g (fx_lor v (wyk M p S R r k)) (by omega) hg (in64_lor _ _) (fun i hi => ?_) (fun b => ?_) K
    · rw [show ((k + 1 : Nat) : Int) = (k : Int) + 1 by omega] at nx
      exact nx
    · rw [lbit_lor, Bool.or_eq_true, hb i hi]
      constructor
      · rintro (⟨j, j1, j2⟩ | h)
        · exact ⟨j, by omega, j2⟩
        · exact ⟨k, by omega, h⟩
      · rintro ⟨j, j1, j2⟩
        by_cases hjk : j = k
        · rw [hjk] at j2
          exact Or.inr j2
        · exact Or.inl ⟨j, by omega, j2⟩
    · rw [hgb b, hfb b, cmp0 wyk_in]
      constructor
      · rintro (⟨h1, h2⟩ | ⟨h1, h2⟩)
        · exact ⟨by omega, h2⟩
        · rw [show b - 12 = k by omega]
          exact ⟨by omega, h2⟩
      · rintro ⟨h1, h2⟩
        by_cases hbk : b = 12 + k
        · rw [show b - 12 = k by omega] at h2
          exact Or.inr ⟨hbk, h2⟩
        · exact Or.inl ⟨by omega, h2⟩
/-- supports -/
theorem sp_supports {R : PR} {r : Nat} {x : Int} (Hp : fx_puz p) (hc : ckn M p Z) (ho : pz_ok Z) (hs : s_ok Z S) (hx : sta x S) (hR : Z.2.2.2.1[r]? = some R) (K : ∀ f : Nat, f < 65536 → (∀ i y : Nat, i < 4 → y < 4 → f.testBit (4 * i + y) = sup Z.1 R S i y) → Q (some (jI f)) M) : wc (kcs L xs) (d + 1) 111 [jR p, jI r, jL x] M Q := by
  obtain ⟨hRo, hr12⟩ := rule_in ho hR
  have h9 := pz_n ho
  obtain ⟨a1, a2, a3, a4, a5⟩ := hc.1.2.2.2.2.2.1 r R hR
  have ci : ∀ i : Nat, i < 4 → 0 ≤ R.2.2.getD i 9 ∧ R.2.2.getD i 9 < 10 := fun i hi => by
    by_cases hil : i < R.2.2.length
    · have hm : R.2.2.getD i 9 ∈ R.2.2 := by
        rw [List.getD_eq_getElem?_getD, List.getElem?_eq_getElem hil]
        exact List.getElem_mem hil
      have := hRo.2.2.2.2.2.2.1 _ hm
      omega
    · rw [List.getD_eq_getElem?_getD, List.getElem?_eq_none (by omega)]
      decide
  have my : ∀ i : Nat, i < 4 → fx_and (fx_lushr x (4 * R.2.2.getD i 9)) 15 = (mki S R.2.2 i : Nat) := fun i hi => sta_may hx (ci i hi) (mki_16 ho hs hRo i)
  have c0 := a4 0 (by decide)
  have c1 := a4 1 (by decide)
  have c2 := a4 2 (by decide)
  have c3 := a4 3 (by decide)
  rw [show 4 * (r : Int) + ((0 : Nat) : Int) = 4 * (r : Int) by omega] at c0
  rw [show ((1 : Nat) : Int) = 1 by rfl] at c1
  rw [show ((2 : Nat) : Int) = 2 by rfl] at c2
  rw [show ((3 : Nat) : Int) = 3 by rfl] at c3
  have m0 := mki_16 ho hs hRo 0
  have m1 := mki_16 ho hs hRo 1
  have m2 := mki_16 ho hs hRo 2
  have m3 := mki_16 ho hs hRo 3
  have hy := ckn_wy hc hR
  refine s111 Hp ?_
  rw [c0, c1, c2, c3, my 0 (by decide), my 1 (by decide), my 2 (by decide), my 3 (by decide)]
  refine ⟨⟨by omega, by omega⟩, ⟨⟨by omega, by omega⟩, kA0⟩, ⟨by omega, by omega⟩, ⟨⟨by omega, by omega⟩, kA1⟩, ⟨by omega, by omega⟩, ⟨⟨by omega, by omega⟩, kA2⟩, ⟨by omega, by omega⟩, ?_⟩
  refine sup_fst Hp hr12 m3 4 0 0 0 (by omega) (by omega) ⟨by omega, by omega⟩ (fun i hi => ?_) (fun b => ?_) (fun g u hg hu hub hgb => ?_)
  · rw [lbit_0]
    constructor
    · intro h
      exact absurd h (by decide)
    · rintro ⟨j, hj, _⟩
      omega
  · rw [Nat.zero_testBit]
    constructor
    · intro h
      exact absurd h (by decide)
    · rintro ⟨h, _⟩
      omega
  · refine sup_snd Hp hu 4 0 g (by omega) hg (fun f hf hfb => K f hf (fun i y hi hy4 => ?_))
    rw [Bool.eq_iff_iff, hfb, hgb, sup_wyk ho hs hRo hy]
    rw [show (4 * i + y) / 4 = i by omega, show (4 * i + y) % 4 = y by omega]
    constructor
    · rintro (⟨h1, h2⟩ | ⟨h1, i2, hi2, hb, hd⟩)
      · have hi3 : i = 3 := by omega
        subst hi3
        rw [show 4 * 3 + y - 12 = y by omega, lbit_ne0 wyk_in] at h2
        obtain ⟨i2, hi2, hb⟩ := h2
        refine ⟨y, i2, hy4, hi2, hb, ?_⟩
        show (i2 + 64 * y) / 64 % 4 = y
        omega
      · rw [hub i2 hi2] at hb
        obtain ⟨j, hj, hbj⟩ := hb
        refine ⟨j, i2, hj, hi2, hbj, ?_⟩
        have hi3 : i = 0 ∨ i = 1 ∨ i = 2 := by omega
        rcases hi3 with rfl | rfl | rfl
        · rw [Nat.pow_zero, Nat.div_one] at hd ⊢
          omega
        · rw [Nat.pow_one] at hd ⊢
          omega
        · rw [show 4 ^ 2 = 16 by decide] at hd ⊢
          omega
    · rintro ⟨k, i2, hk, hi2, hb, hd⟩
      by_cases hi3 : i = 3
      · subst hi3
        left
        have hky : k = y := by
          rw [show 4 ^ 3 = 64 by decide] at hd
          omega
        subst hky
        refine ⟨by omega, ?_⟩
        rw [show 4 * 3 + k - 12 = k by omega, lbit_ne0 wyk_in]
        exact ⟨i2, hi2, hb⟩
      · right
        refine ⟨by omega, i2, hi2, ?_, ?_⟩
        · rw [hub i2 hi2]
          exact ⟨k, hk, hb⟩
        · have hi4 : i = 0 ∨ i = 1 ∨ i = 2 := by omega
          rcases hi4 with rfl | rfl | rfl
          · rw [Nat.pow_zero, Nat.div_one] at hd ⊢
            omega
          · rw [Nat.pow_one] at hd ⊢
            omega
          · rw [show 4 ^ 2 = 16 by decide] at hd ⊢
            omega
end SUP
