/-! FORMS: renamings, on both sides. -/
def skp : Nat → Int → Int
  | 0, r => r
  | n + 1, r => skp n (fx_and r (r - 1))
def mx1 (x : Int) : Int := if x < 1 then 1 else x
/-- what the class's renaming gives: fuel, free, left, ways, i -/
def rnC (s : Int) : Nat → Int → Int → Int → Int → List Int
  | 0, _, _, _, _ => []
  | n + 1, fr, lf, wy, i => fx_and (lowb (skp (lf / mx1 wy).toNat fr).toNat : Nat) 3 :: rnC s n (fx_and fr (fx_xor (fx_shl 1 (fx_and (lowb (skp (lf / mx1 wy).toNat fr).toNat : Nat) 3)) (-1))) (lf - lf / mx1 wy * wy) (wy / mx1 (s - 1 - i)) (i + 1)
/-- all is within bounds -/
def skK : Nat → Int → Bool
  | 0, r => decide (0 < r ∧ r < 16)
  | n + 1, r => decide (0 < r ∧ r < 16) && skK n (fx_and r (r - 1))
def rnK (s : Int) : Nat → Int → Int → Int → Int → Bool
  | 0, _, _, _, _ => true
  | n + 1, fr, lf, wy, i => decide (0 ≤ lf ∧ lf < 100 ∧ 0 ≤ wy ∧ wy < 100 ∧ lf / mx1 wy < 4) && skK (lf / mx1 wy).toNat fr && rnK s n (fx_and fr (fx_xor (fx_shl 1 (fx_and (lowb (skp (lf / mx1 wy).toNat fr).toNat : Nat) 3)) (-1))) (lf - lf / mx1 wy * wy) (wy / mx1 (s - 1 - i)) (i + 1)
def fcN : Nat → Nat
  | 0 => 1
  | n + 1 => (n + 1) * fcN n
/-- the k-th renaming of s symbols -/
def rnm (s k : Nat) : List Int := rnC (s : Int) s 15 (k : Int) (fcN (s - 1) : Nat) 0
theorem rnm_K : ∀ s : Fin 5, ∀ k : Fin 24, (k : Nat) < fcN s → rnK ((s : Nat) : Int) (s : Nat) 15 ((k : Nat) : Int) (fcN ((s : Nat) - 1) : Nat) 0 = true := by decide +kernel
theorem rnm_ok : ∀ s : Fin 5, ∀ k : Fin 24, (k : Nat) < fcN s → (rnm s k).length = (s : Nat) ∧ (rnm s k).Nodup ∧ ∀ c ∈ rnm s k, 0 ≤ c ∧ c < ((s : Nat) : Int) := by decide +kernel
/-- what the reference's renaming gives -/
def fnM : Nat → Int → Int → Int → Int
  | 0, _, _, v => v
  | n + 1, fr, q, v => if fx_and (fx_shr fr v) 1 = 0 then fnM n fr (q - fx_and (fx_shr fr v) 1) (v + 1) else if q ≤ 0 then v else fnM n fr (q - fx_and (fx_shr fr v) 1) (v + 1)
def fnK : Nat → Int → Int → Int → Bool
  | 0, _, _, _ => false
  | n + 1, fr, q, v => decide (0 ≤ fx_and (fx_shr fr v) 1 ∧ fx_and (fx_shr fr v) 1 ≤ 1 ∧ -10 ≤ q ∧ q ≤ 100) && (if fx_and (fx_shr fr v) 1 = 0 then fnK n fr (q - fx_and (fx_shr fr v) 1) (v + 1) else if q ≤ 0 then true else fnK n fr (q - fx_and (fx_shr fr v) 1) (v + 1))
def rnM (s : Int) : Nat → Int → Int → Int → Int → List Int
  | 0, _, _, _, _ => []
  | n + 1, fr, lf, wy, i => fnM 5 fr (lf / (wy / (s - i))) 0 :: rnM s n (fx_and fr (fx_xor (fx_shl 1 (fnM 5 fr (lf / (wy / (s - i))) 0)) (-1))) (lf % (wy / (s - i))) (wy / (s - i)) (i + 1)
def rmK (s : Int) : Nat → Int → Int → Int → Int → Bool
  | 0, _, _, _, _ => true
  | n + 1, fr, lf, wy, i => decide (0 ≤ lf ∧ lf < 100 ∧ 0 ≤ wy ∧ wy < 100 ∧ 0 < s - i ∧ 0 < wy / (s - i) ∧ wy / (s - i) < 100) && fnK 5 fr (lf / (wy / (s - i))) 0 && rmK s n (fx_and fr (fx_xor (fx_shl 1 (fnM 5 fr (lf / (wy / (s - i))) 0)) (-1))) (lf % (wy / (s - i))) (wy / (s - i)) (i + 1)
theorem rnM_K : ∀ s : Fin 5, ∀ k : Fin 24, (k : Nat) < fcN s → rmK ((s : Nat) : Int) (s : Nat) (fx_shl 1 ((s : Nat) : Int) - 1) ((k : Nat) : Int) (fcN (s : Nat) : Nat) 0 = true ∧ rnM ((s : Nat) : Int) (s : Nat) (fx_shl 1 ((s : Nat) : Int) - 1) ((k : Nat) : Int) (fcN (s : Nat) : Nat) 0 = rnm s k := by decide +kernel
theorem fcN_24 {s : Nat} (h : s ≤ 4) : fcN s ≤ 24 := by
  have : ∀ s : Fin 5, fcN (s : Nat) ≤ 24 := by decide
  exact this ⟨s, by omega⟩
theorem rnC_len {s : Int} : ∀ {n : Nat} {fr lf wy i : Int}, (rnC s n fr lf wy i).length = n
  | 0, _, _, _, _ => rfl
  | n + 1, fr, lf, wy, i => by rw [rnC, List.length_cons, rnC_len]
theorem rnM_len {s : Int} : ∀ {n : Nat} {fr lf wy i : Int}, (rnM s n fr lf wy i).length = n
  | 0, _, _, _, _ => rfl
  | n + 1, fr, lf, wy, i => by rw [rnM, List.length_cons, rnM_len]
section RNM
variable {kc : List va_E} {d f : Nat} {Q : Option fx_V → fx_M → Prop}
theorem rn_skip {M : fx_M} {s fr lf wy i : Int} {sk : Nat} (Hf : fx_frm f) (hs4 : sk < 4) (K : ∀ r : Int, r = skp sk fr → 0 < r → r < 16 → wp kc (d + 3) 155 131 [some (jR f), none, some (jI s), some (jI fr), some (jI lf), some (jI wy), some (jI i), none, none, none] [jI (lowb r.toNat : Nat), jI i, jR (f + 3)] M Q) : ∀ (u j : Nat) (r : Int), j + u = sk → skK u r = true → skp u r = skp sk fr → wp kc (d + 3) 155 92 [some (jR f), none, some (jI s), some (jI fr), some (jI lf), some (jI wy), some (jI i), some (jI sk), some (jI r), some (jI j)] [] M Q := by
  intro u
  induction u with
  | zero =>
    intro j r hj hk hr
    rw [skK] at hk
    have hb := of_decide_eq_true hk
    refine s155_92 Hf ⟨⟨⟨by omega, by omega⟩, ⟨by omega, by omega⟩⟩, fun _ => ?_, fun h => by omega⟩
    have KK := K r hr hb.1 hb.2
    rw [show r = ((r.toNat : Nat) : Int) by omega] at KK ⊢
    rw [Int.toNat_natCast] at KK
    exact sp_lowest (d := d) (b := r.toNat) (by omega) (by omega) KK
  | succ u ih =>
    intro j r hj hk hr
    rw [skK, Bool.and_eq_true] at hk
    have nx := ih (j + 1) (fx_and r (r - 1)) (by omega) hk.2 hr
    rw [show ((j + 1 : Nat) : Int) = (j : Int) + 1 by omega] at nx
    exact s155_92 Hf ⟨⟨⟨by omega, by omega⟩, ⟨by omega, by omega⟩⟩, fun h => by omega, fun _ => ⟨⟨by omega, by omega⟩, fun h => by omega, fun _ => nx⟩⟩
theorem rn_loop {s : Int} (Hf : fx_frm f) (hs : s ≤ 4) : ∀ (n : Nat) (fr lf wy i : Int) (M : fx_M), i + n = s → 0 ≤ i → rnK s n fr lf wy i = true → (∀ M', (∀ j : Nat, j < n → M' (f + 3) (i + j) = (rnC s n fr lf wy i).getD j 0) → (∀ b j, ¬ (b = f + 3 ∧ i ≤ j) → M' b j = M b j) → Q none M') → wp kc (d + 3) 155 34 [some (jR f), none, some (jI s), some (jI fr), some (jI lf), some (jI wy), some (jI i), none, none, none] [] M Q := by
  intro n
  induction n with
  | zero =>
    intro fr lf wy i M hi h0 _ K
    exact s155_34 Hf ⟨⟨⟨by omega, by omega⟩, ⟨by omega, by omega⟩⟩, fun _ => K M (fun j hj => by omega) (fun _ _ _ => rfl), fun h => by omega⟩
  | succ n ih =>
    intro fr lf wy i M hi h0 hk K
    rw [rnK, Bool.and_eq_true, Bool.and_eq_true] at hk
    have hb := of_decide_eq_true hk.1.1
    have hwm : mx1 wy = (if wy < 1 then (1 : Int) else wy) := rfl
    have him : mx1 (s - 1 - i) = (if s - 1 - i < 1 then (1 : Int) else s - 1 - i) := rfl
    have hw1 : 1 ≤ mx1 wy ∧ mx1 wy ≤ 100 := by
      rw [hwm]
      split <;> omega
    have hi1 : 1 ≤ mx1 (s - 1 - i) ∧ mx1 (s - 1 - i) ≤ 100 := by
      rw [him]
      split <;> omega
    have hq0 : 0 ≤ lf / mx1 wy := Int.ediv_nonneg (by omega) (by omega)
    refine s155_34 Hf ?_
    rw [← hwm, ← him]
    refine ⟨⟨⟨by omega, by omega⟩, ⟨by omega, by omega⟩⟩, fun h => by omega, fun _ => ⟨⟨by omega, by omega⟩, fun h => by omega, fun _ => ⟨⟨by omega, by omega⟩, ⟨⟨by omega, by omega⟩, ⟨by omega, by omega⟩⟩, ⟨by omega, by omega⟩, ⟨⟨by omega, by omega⟩, ⟨by omega, by omega⟩⟩, ?_⟩⟩⟩
    have ek : ((lf / mx1 wy).toNat : Int) = lf / mx1 wy := by omega
    have go := rn_skip (kc := kc) (d := d) (Q := Q) (M := M) (s := s) (fr := fr) (lf := lf - lf / mx1 wy * wy) (wy := wy / mx1 (s - 1 - i)) (i := i) (sk := (lf / mx1 wy).toNat) Hf (by omega) (fun r hr r0 r16 => ?_) (lf / mx1 wy).toNat 0 fr (by omega) hk.1.2 rfl
    · rw [ek] at go
      exact go
    · rw [hr]
      generalize hbb : fx_and (lowb (skp (lf / mx1 wy).toNat fr).toNat : Nat) 3 = b
      refine s155_131 Hf ⟨⟨by omega, by omega⟩, ⟨by omega, by omega⟩, ?_⟩
      rw [hbb, fx_up_self]
      have hk2 := hk.2
      rw [rnC] at K
      rw [hbb] at hk2 K
      refine ih _ _ _ (i + 1) _ (by omega) (by omega) hk2 (fun M' m1 m2 => K M' (fun j hj => ?_) (fun b' j hb' => ?_))
      · cases j with
        | zero =>
          rw [show i + ((0 : Nat) : Int) = i by omega, m2 (f + 3) i (by omega), fx_up_self]
          rfl
        | succ j =>
          have := m1 j (by omega)
          rw [show i + ((j + 1 : Nat) : Int) = i + 1 + (j : Int) by omega, this]
          rfl
      · rw [m2 b' j (by omega), fx_up_ne (by omega)]
theorem sp_crename {M : fx_M} (Hf : fx_frm f) {s k : Nat} (hs : 1 ≤ s ∧ s ≤ 4) (hk : k < fcN s) (K : ∀ M', (∀ j : Nat, j < s → M' (f + 3) (j : Int) = (rnm s k).getD j 0) → (∀ b j, b ≠ f + 3 → M' b j = M b j) → Q none M') : wc kc (d + 3) 155 [jR f, jI k, jI s] M Q := by
  have h24 := fcN_24 hs.2
  have hK := rnm_K ⟨s, by omega⟩ ⟨k, by omega⟩ hk
  dsimp only at hK
  have fin : ∀ wy : Int, wy = ((fcN (s - 1) : Nat) : Int) → wp kc (d + 3) 155 34 [some (jR f), none, some (jI s), some (jI 15), some (jI k), some (jI wy), some (jI 0), none, none, none] [] M Q := fun wy e => by
    rw [e]
    refine rn_loop Hf (by omega) s 15 (k : Int) _ 0 M (by omega) (by omega) hK (fun M' m1 m2 => K M' (fun j hj => ?_) (fun b j hb => m2 b j (by omega)))
    have := m1 j hj
    rw [show (0 : Int) + (j : Int) = (j : Int) by omega] at this
    exact this
  refine s155 Hf ?_
  rcases (by omega : s = 1 ∨ s = 2 ∨ s = 3 ∨ s = 4) with e | e | e | e <;> subst e
  · exact s155_12 Hf ⟨⟨⟨by omega, by omega⟩, ⟨by omega, by omega⟩⟩, fun _ => fin _ (by decide), fun h => by omega⟩
  · exact s155_12 Hf ⟨⟨⟨by omega, by omega⟩, ⟨by omega, by omega⟩⟩, fun _ => fin _ (by decide), fun h => by omega⟩
  · exact s155_12 Hf ⟨⟨⟨by omega, by omega⟩, ⟨by omega, by omega⟩⟩, fun h => by omega, fun _ => s155_12 Hf ⟨⟨⟨by omega, by omega⟩, ⟨by omega, by omega⟩⟩, fun _ => fin _ (by decide), fun h => by omega⟩⟩
  · exact s155_12 Hf ⟨⟨⟨by omega, by omega⟩, ⟨by omega, by omega⟩⟩, fun h => by omega, fun _ => s155_12 Hf ⟨⟨⟨by omega, by omega⟩, ⟨by omega, by omega⟩⟩, fun h => by omega, fun _ => s155_12 Hf ⟨⟨⟨by omega, by omega⟩, ⟨by omega, by omega⟩⟩, fun _ => fin _ (by decide), fun h => by omega⟩⟩⟩
theorem mn_find {M : fx_M} {s fr lf wy i : Int} (hi : 0 ≤ i ∧ i < 4) : ∀ (n : Nat) (q v : Int), fnK n fr q v = true → wp kc (d + 1) 290 37 [some (jR 133), some (jI s), none, some (jI (fx_and fr (fx_xor (fx_shl 1 (fnM n fr q v)) (-1)))), some (jI lf), some (jI wy), some (jI (i + 1)), none, none] [] (fx_up M 169 i (fnM n fr q v)) Q → wp kc (d + 1) 290 69 [some (jR 133), some (jI s), none, some (jI fr), some (jI lf), some (jI wy), some (jI i), some (jI q), some (jI v)] [] M Q := by
  intro n
  induction n with
  | zero =>
    intro q v hk _
    cases hk
  | succ n ih =>
    intro q v hk K
    rw [fnK, Bool.and_eq_true] at hk
    have hb := of_decide_eq_true hk.1
    rw [fnM] at K
    by_cases h0 : fx_and (fx_shr fr v) 1 = 0
    · rw [if_pos h0] at K
      have hk2 := hk.2
      rw [if_pos h0] at hk2
      exact s290_69 ⟨⟨by omega, by omega⟩, fun _ => ih _ _ hk2 K, fun h => absurd h0 h⟩
    · rw [if_neg h0] at K
      have hk2 := hk.2
      rw [if_neg h0] at hk2
      by_cases hq : q ≤ 0
      · rw [if_pos hq] at K
        exact s290_69 ⟨⟨by omega, by omega⟩, fun h => absurd h h0, fun _ => ⟨⟨by omega, by omega⟩, fun _ => ⟨hi, K⟩, fun h => by omega⟩⟩
      · rw [if_neg hq] at K hk2
        exact s290_69 ⟨⟨by omega, by omega⟩, fun h => absurd h h0, fun _ => ⟨⟨by omega, by omega⟩, fun h => absurd h hq, fun _ => ih _ _ hk2 K⟩⟩
theorem mn_loop {s : Int} (hs : s ≤ 4) : ∀ (n : Nat) (fr lf wy i : Int) (M : fx_M), i + n = s → 0 ≤ i → rmK s n fr lf wy i = true → (∀ M', (∀ j : Nat, j < n → M' 169 (i + j) = (rnM s n fr lf wy i).getD j 0) → (∀ b j, ¬ (b = 169 ∧ i ≤ j) → M' b j = M b j) → Q none M') → wp kc (d + 1) 290 37 [some (jR 133), some (jI s), none, some (jI fr), some (jI lf), some (jI wy), some (jI i), none, none] [] M Q := by
  intro n
  induction n with
  | zero =>
    intro fr lf wy i M hi h0 _ K
    exact s290_37 ⟨⟨⟨by omega, by omega⟩, ⟨by omega, by omega⟩⟩, fun _ => K M (fun j hj => by omega) (fun _ _ _ => rfl), fun h => by omega⟩
  | succ n ih =>
    intro fr lf wy i M hi h0 hk K
    rw [rmK, Bool.and_eq_true, Bool.and_eq_true] at hk
    have hb := of_decide_eq_true hk.1.1
    rw [rnM] at K
    refine s290_37 ⟨⟨⟨by omega, by omega⟩, ⟨by omega, by omega⟩⟩, fun h => by omega, fun _ => ⟨⟨⟨by omega, by omega⟩, ⟨by omega, by omega⟩⟩, ⟨⟨by omega, by omega⟩, ⟨by omega, by omega⟩⟩, ⟨⟨by omega, by omega⟩, ⟨by omega, by omega⟩⟩, ?_⟩⟩
    refine mn_find (d := d) ⟨h0, by omega⟩ 5 _ 0 hk.1.2 ?_
    have hk2 := hk.2
    generalize fnM 5 fr (lf / (wy / (s - i))) 0 = b at K hk2 ⊢
    refine ih _ _ _ (i + 1) _ (by omega) (by omega) hk2 (fun M' m1 m2 => K M' (fun j hj => ?_) (fun b' j hb' => ?_))
    · cases j with
      | zero =>
        rw [show i + ((0 : Nat) : Int) = i by omega, m2 169 i (by omega), fx_up_self]
        rfl
      | succ j =>
        have := m1 j (by omega)
        rw [show i + ((j + 1 : Nat) : Int) = i + 1 + (j : Int) by omega, this]
        rfl
    · rw [m2 b' j (by omega), fx_up_ne (by omega)]
theorem sp_mrename {M : fx_M} {s k : Nat} (hs : 1 ≤ s ∧ s ≤ 4) (hk : k < fcN s) (K : ∀ M', (∀ j : Nat, j < s → M' 169 (j : Int) = (rnm s k).getD j 0) → (∀ b j, b ≠ 169 → M' b j = M b j) → Q none M') : wc kc (d + 1) 290 [jR 133, jI s, jI k] M Q := by
  have h24 := fcN_24 hs.2
  have hK := rnM_K ⟨s, by omega⟩ ⟨k, by omega⟩ hk
  dsimp only at hK
  have fin : ∀ wy : Int, wy = ((fcN s : Nat) : Int) → wp kc (d + 1) 290 37 [some (jR 133), some (jI s), none, some (jI (fx_shl 1 (s : Int) - 1)), some (jI k), some (jI wy), some (jI 0), none, none] [] M Q := fun wy e => by
    rw [e]
    refine mn_loop (d := d) (by omega) s _ (k : Int) _ 0 M (by omega) (by omega) hK.1 (fun M' m1 m2 => K M' (fun j hj => ?_) (fun b j hb => m2 b j (by omega)))
    have := m1 j hj
    rw [show (0 : Int) + (j : Int) = (j : Int) by omega, hK.2] at this
    exact this
  refine s290 ?_
  rcases (by omega : s = 1 ∨ s = 2 ∨ s = 3 ∨ s = 4) with e | e | e | e <;> subst e
  · exact s290_15 ⟨⟨⟨by omega, by omega⟩, ⟨by omega, by omega⟩⟩, fun _ => fin _ (by decide), fun h => by omega⟩
  · exact s290_15 ⟨⟨⟨by omega, by omega⟩, ⟨by omega, by omega⟩⟩, fun h => by omega, fun _ => s290_15 ⟨⟨⟨by omega, by omega⟩, ⟨by omega, by omega⟩⟩, fun _ => fin _ (by decide), fun h => by omega⟩⟩
  · exact s290_15 ⟨⟨⟨by omega, by omega⟩, ⟨by omega, by omega⟩⟩, fun h => by omega, fun _ => s290_15 ⟨⟨⟨by omega, by omega⟩, ⟨by omega, by omega⟩⟩, fun h => by omega, fun _ => s290_15 ⟨⟨⟨by omega, by omega⟩, ⟨by omega, by omega⟩⟩, fun _ => fin _ (by decide), fun h => by omega⟩⟩⟩
  · exact s290_15 ⟨⟨⟨by omega, by omega⟩, ⟨by omega, by omega⟩⟩, fun h => by omega, fun _ => s290_15 ⟨⟨⟨by omega, by omega⟩, ⟨by omega, by omega⟩⟩, fun h => by omega, fun _ => s290_15 ⟨⟨⟨by omega, by omega⟩, ⟨by omega, by omega⟩⟩, fun h => by omega, fun _ => s290_15 ⟨⟨⟨by omega, by omega⟩, ⟨by omega, by omega⟩⟩, fun _ => fin _ (by decide), fun h => by omega⟩⟩⟩⟩
end RNM
