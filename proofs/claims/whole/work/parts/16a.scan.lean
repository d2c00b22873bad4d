/-! SCAN: take, ahead, number, and what is told; pure readers of (place, wrong). -/
def rd (M : fx_M) (s : Nat) (p w : Int) : fx_M := fx_up (fx_up M s 3 w) s 1 p
theorem rd_1 (M : fx_M) (s : Nat) (p w : Int) : (rd M s p w) s 1 = p := fx_up_self _ _ _ _
theorem rd_3 (M : fx_M) (s : Nat) (p w : Int) : (rd M s p w) s 3 = w := by
  unfold rd
  rw [fx_up_nk (by decide), fx_up_self]
theorem rd_ne {M : fx_M} {s b : Nat} {p w j : Int} (h : ¬ (b = s ∧ (j = 1 ∨ j = 3))) : (rd M s p w) b j = M b j := by
  unfold rd
  rw [fx_up_ne (by omega), fx_up_ne (by omega)]
theorem rd_rd (M : fx_M) (s : Nat) (p w p' w' : Int) : rd (rd M s p w) s p' w' = rd M s p' w' := by
  funext b j
  by_cases h : b = s ∧ (j = 1 ∨ j = 3)
  · obtain ⟨rfl, rfl | rfl⟩ := h
    · rw [rd_1, rd_1]
    · rw [rd_3, rd_3]
  · rw [rd_ne h, rd_ne h, rd_ne h]
theorem rd_id (M : fx_M) (s : Nat) : rd M s (M s 1) (M s 3) = M := by
  funext b j
  by_cases h : b = s ∧ (j = 1 ∨ j = 3)
  · obtain ⟨rfl, rfl | rfl⟩ := h
    · rw [rd_1]
    · rw [rd_3]
  · rw [rd_ne h]
theorem rd_w {M : fx_M} {s : Nat} {w : Int} : fx_up M s 3 w = rd M s (M s 1) w := by
  funext b j
  by_cases h : b = s ∧ (j = 1 ∨ j = 3)
  · obtain ⟨rfl, rfl | rfl⟩ := h
    · rw [rd_1, fx_up_nk (by decide)]
    · rw [rd_3, fx_up_self]
  · rw [rd_ne h, fx_up_ne (by omega)]
theorem rd_p {M : fx_M} {s : Nat} {p : Int} : fx_up M s 1 p = rd M s p (M s 3) := by
  funext b j
  by_cases h : b = s ∧ (j = 1 ∨ j = 3)
  · obtain ⟨rfl, rfl | rfl⟩ := h
    · rw [rd_1, fx_up_self]
    · rw [rd_3, fx_up_nk (by decide)]
  · rw [rd_ne h, fx_up_ne (by omega)]
theorem scn_arr {s a t n : Nat} (Hs : fx_scn s) (ha : fx_a a = some (t, n)) : a ≠ s := by
  intro h
  subst h
  unfold fx_scn at Hs
  simp at Hs
  rcases Hs with rfl | rfl
  · exact absurd ha (by rw [show fx_a 7 = none by decide +kernel]; simp)
  · exact absurd ha (by rw [show fx_a 129 = none by decide +kernel]; simp)
theorem sc_at_rd {M : fx_M} {s a n : Nat} {p w : Int} (Hs : fx_scn s) (h : sc_at M s a n) (hp : 0 ≤ p ∧ p ≤ M s 2) (hw : 0 ≤ w ∧ w ≤ 1) : sc_at (rd M s p w) s a n := by
  obtain ⟨a0, a1, a2, a3, a4, a5, a6, a7, a8⟩ := h
  have ha := scn_arr Hs a1
  refine ⟨by rw [rd_ne (by omega)]; exact a0, a1, a2, by rw [rd_1]; omega, by rw [rd_1, rd_ne (by omega)]; omega, by rw [rd_ne (by omega)]; exact a5, by rw [rd_3]; omega, by rw [rd_3]; omega, fun j j0 j1 => ?_⟩
  rw [rd_ne (by omega)]
  exact a8 j j0 j1
theorem sc_at_up {M : fx_M} {s a n b : Nat} {k v : Int} (h : sc_at M s a n) (hb : b ≠ a) (hk : ¬ (b = s ∧ (k = 0 ∨ k = 1 ∨ k = 2 ∨ k = 3))) : sc_at (fx_up M b k v) s a n := by
  obtain ⟨a0, a1, a2, a3, a4, a5, a6, a7, a8⟩ := h
  refine ⟨by rw [fx_up_ne (by omega)]; exact a0, a1, a2, by rw [fx_up_ne (by omega)]; exact a3, by rw [fx_up_ne (by omega), fx_up_ne (by omega)]; exact a4, by rw [fx_up_ne (by omega)]; exact a5, by rw [fx_up_ne (by omega)]; exact a6, by rw [fx_up_ne (by omega)]; exact a7, fun j j0 j1 => ?_⟩
  rw [fx_up_na (Ne.symm hb)]
  exact a8 j j0 j1
/-! pure readers: g what stands there, e the end, p the place, w wrong -/
def rT (g : Int → Int) (e c p w : Int) : Int × Int := if w = 0 then (if p < e then (if g p = c then (p + 1, 0) else (p, 1)) else (p, 1)) else (p, 1)
abbrev isD (c : Int) : Prop := 48 ≤ c ∧ c ≤ 57
def rN1 (g : Int → Int) (e : Int) : Nat → Int → Int → Int × Int
  | 0, v, p => (v, p)
  | n + 1, v, p => if 0 < v ∧ p < e ∧ isD (g p) then rN1 g e n (v * 10 + g p - 48) (p + 1) else (v, p)
/-- a number of at most m digits, no 0 ahead of others: value, place, wrong -/
def rN (g : Int → Int) (e : Int) (m : Nat) (p w : Int) : Int × Int × Int := if w = 0 ∧ p < e ∧ isD (g p) then ((rN1 g e (m - 1) (g p - 48) (p + 1)).1, (rN1 g e (m - 1) (g p - 48) (p + 1)).2, 0) else (0, p, 1)
theorem rT_b {g : Int → Int} {e c p w : Int} (h : p ≤ e) : p ≤ (rT g e c p w).1 ∧ (rT g e c p w).1 ≤ e ∧ 0 ≤ (rT g e c p w).2 ∧ (rT g e c p w).2 ≤ 1 := by
  unfold rT
  (repeat' split) <;> (dsimp only; omega)
theorem rN1_b {g : Int → Int} {e : Int} : ∀ (n : Nat) (v p : Int), p ≤ e → 0 ≤ v → p ≤ (rN1 g e n v p).2 ∧ (rN1 g e n v p).2 ≤ e ∧ 0 ≤ (rN1 g e n v p).1 ∧ (rN1 g e n v p).1 < (v + 1) * ((10 ^ n : Nat) : Int)
  | 0, v, p, h, h0 => by
    unfold rN1
    dsimp only
    have : ((10 ^ 0 : Nat) : Int) = 1 := rfl
    omega
  | n + 1, v, p, h, h0 => by
    have hp : (0 : Int) < ((10 ^ n : Nat) : Int) := by
      have : 0 < (10 ^ n : Nat) := Nat.pos_of_ne_zero (by simp)
      omega
    have hq : ((10 ^ (n + 1) : Nat) : Int) = 10 * ((10 ^ n : Nat) : Int) := by
      rw [Nat.pow_succ]
      omega
    unfold rN1
    split
    · next hc =>
      obtain ⟨c1, c2, c3, c4⟩ := hc
      have ih := rN1_b (g := g) (e := e) n (v * 10 + g p - 48) (p + 1) (by omega) (by omega)
      refine ⟨by omega, ih.2.1, ih.2.2.1, Int.lt_of_lt_of_le ih.2.2.2 ?_⟩
      rw [hq]
      have : (v * 10 + g p - 48 + 1) ≤ (v + 1) * 10 := by omega
      have h2 := Int.mul_le_mul_of_nonneg_right this (Int.le_of_lt hp)
      rw [Int.mul_assoc] at h2
      exact h2
    · dsimp only
      refine ⟨by omega, by omega, by omega, ?_⟩
      rw [hq]
      have h2 : (v + 1) * 1 ≤ (v + 1) * (10 * ((10 ^ n : Nat) : Int)) := Int.mul_le_mul_of_nonneg_left (by omega) (by omega)
      omega
theorem rN_b {g : Int → Int} {e : Int} {m : Nat} {p w : Int} (hm : 1 ≤ m) (h : p ≤ e) : p ≤ (rN g e m p w).2.1 ∧ (rN g e m p w).2.1 ≤ e ∧ 0 ≤ (rN g e m p w).2.2 ∧ (rN g e m p w).2.2 ≤ 1 ∧ 0 ≤ (rN g e m p w).1 ∧ (rN g e m p w).1 < ((10 ^ m : Nat) : Int) := by
  have hp : (0 : Int) < ((10 ^ (m - 1) : Nat) : Int) := by
    have : 0 < (10 ^ (m - 1) : Nat) := Nat.pos_of_ne_zero (by simp)
    omega
  have hq : ((10 ^ m : Nat) : Int) = 10 * ((10 ^ (m - 1) : Nat) : Int) := by
    rw [show m = (m - 1) + 1 by omega, Nat.pow_succ]
    simp only [Nat.add_sub_cancel]
    omega
  unfold rN
  split
  · next hc =>
    obtain ⟨c1, c2, c3, c4⟩ := hc
    have ih := rN1_b (g := g) (e := e) (m - 1) (g p - 48) (p + 1) (by omega) (by omega)
    dsimp only
    refine ⟨by omega, ih.2.1, by omega, by omega, ih.2.2.1, Int.lt_of_lt_of_le ih.2.2.2 ?_⟩
    rw [hq]
    exact Int.mul_le_mul_of_nonneg_right (by omega) (Int.le_of_lt hp)
  · dsimp only
    omega
section SC2
variable {kc : List va_E} {d s a n : Nat} {M : fx_M} {Q : Option fx_V → fx_M → Prop}
theorem sp_take {c : Int} (Hs : fx_scn s) (hS : sc_at M s a n) (hc : 0 ≤ c ∧ c ≤ 65535) (K : Q none (rd M s (rT (M a) (M s 2) c (M s 1) (M s 3)).1 (rT (M a) (M s 2) c (M s 1) (M s 3)).2)) : wc kc (d + 1) 34 [jR s, jI c] M Q := by
  obtain ⟨a0, a1, a2, a3, a4, a5, a6, a7, a8⟩ := hS
  have ea : (M s 0).toNat = a := by
    rw [a0]
    rfl
  unfold rT at K
  refine s34 (h1n := n) Hs ⟨⟨by omega, by omega⟩, fun h => ?_, fun h => ⟨⟨⟨by omega, by omega⟩, ⟨by omega, by omega⟩⟩, fun h2 => ?_, fun h2 => ?_⟩⟩
  · rw [if_neg h] at K
    rw [rd_w]
    exact K
  · rw [if_pos h, if_neg (by omega)] at K
    rw [rd_w]
    exact K
  · rw [ea]
    rw [if_pos h, if_pos h2] at K
    have hg := a8 (M s 1) a3 (by omega)
    refine ⟨⟨⟨a1, by omega⟩, a3, by omega⟩, ⟨⟨by omega, by omega⟩, by omega, by omega⟩, fun h3 => ?_, fun h3 => ?_⟩
    · rw [if_pos h3] at K
      rw [rd_p, h]
      exact K
    · rw [if_neg h3] at K
      rw [rd_w]
      exact K
theorem sp_ahead {c : Int} (Hs : fx_scn s) (hS : sc_at M s a n) (hc : 0 ≤ c ∧ c ≤ 65535) (K1 : M s 3 = 0 → M s 1 < M s 2 → M a (M s 1) = c → Q (some (jI 1)) M) (K2 : ¬ (M s 3 = 0 ∧ M s 1 < M s 2 ∧ M a (M s 1) = c) → Q (some (jI 0)) M) : wc kc (d + 1) 38 [jR s, jI c] M Q := by
  obtain ⟨a0, a1, a2, a3, a4, a5, a6, a7, a8⟩ := hS
  have ea : (M s 0).toNat = a := by
    rw [a0]
    rfl
  refine s38 (h1n := n) Hs ?_
  rw [ea]
  refine ⟨⟨by omega, by omega⟩, fun _ => ⟨by omega, by omega⟩, fun _ => ⟨by omega, by omega⟩, fun _ _ => ⟨⟨a1, by omega⟩, a3, by omega⟩, fun _ h2 => ?_, fun _ _ => ⟨by omega, by omega⟩, ⟨by (repeat' split) <;> omega, by (repeat' split) <;> omega⟩, ?_⟩
  · have := a8 (M s 1) a3 (by omega)
    exact ⟨by omega, by omega⟩
  · by_cases h1 : M s 3 = 0
    · by_cases h2 : M s 1 < M s 2
      · by_cases h3 : M a (M s 1) = c
        · rw [if_pos h1, if_pos h2, if_pos h3]
          exact K1 h1 h2 h3
        · rw [if_pos h1, if_pos h2, if_neg h3]
          exact K2 (by omega)
      · rw [if_pos h1, if_neg h2]
        exact K2 (by omega)
    · rw [if_neg h1]
      exact K2 (by omega)
theorem num_loop (Hs : fx_scn s) {m : Int} (hm : m ≤ 100) : ∀ (k : Nat) (M : fx_M) (v i : Int), sc_at M s a n → i + k = m → 0 ≤ i → 0 ≤ v → v < ((10 ^ (9 - k) : Nat) : Int) → k ≤ 8 → M s 3 = 0 → Q (some (jI (rN1 (M a) (M s 2) k v (M s 1)).1)) (rd M s (rN1 (M a) (M s 2) k v (M s 1)).2 0) → wp kc (d + 1) 35 78 [some (jR s), some (jI m), some (jI v), some (jI i)] [] M Q
  | 0, M, v, i, hS, hi, h0, hv, hv2, hk, h3, K => by
    have K : Q (some (jI v)) (rd M s (M s 1) 0) := K
    rw [← h3, rd_id] at K
    exact s35_78 (h1n := n) (h2n := n) (h3n := n) Hs ⟨⟨⟨by omega, by omega⟩, ⟨by omega, by omega⟩⟩, fun _ => K, fun h => by omega⟩
  | k + 1, M, v, i, hS, hi, h0, hv, hv2, hk, h3, K => by
    have hS2 := hS
    obtain ⟨a0, a1, a2, a3, a4, a5, a6, a7, a8⟩ := hS
    have ea : (M s 0).toNat = a := by
      rw [a0]
      rfl
    have h10 : ((10 ^ (9 - (k + 1)) : Nat) : Int) ≤ 100000000 := by
      have := Nat.pow_le_pow_right (n := 10) (by decide) (show 9 - (k + 1) ≤ 8 by omega)
      omega
    have stay : Q (some (jI v)) (rd M s (M s 1) 0) → Q (some (jI v)) M := fun h => by
      rw [← h3, rd_id] at h
      exact h
    unfold rN1 at K
    refine s35_78 (h1n := n) (h2n := n) (h3n := n) Hs ?_
    rw [ea]
    refine ⟨⟨⟨by omega, by omega⟩, ⟨by omega, by omega⟩⟩, fun h => by omega, fun _ => ⟨⟨by omega, by omega⟩, fun h => ?_, fun hv0 => ⟨⟨⟨by omega, by omega⟩, ⟨by omega, by omega⟩⟩, fun h => ?_, fun hp => ?_⟩⟩⟩
    · rw [if_neg (by omega)] at K
      exact stay K
    · rw [if_neg (by omega)] at K
      exact stay K
    · have hg := a8 (M s 1) a3 (by omega)
      refine ⟨⟨⟨a1, by omega⟩, a3, by omega⟩, ⟨by omega, by omega⟩, fun h => ?_, fun hc1 => ⟨⟨⟨a1, by omega⟩, a3, by omega⟩, ⟨by omega, by omega⟩, fun hc2 => ⟨⟨⟨a1, by omega⟩, a3, by omega⟩, ?_⟩, fun h => ?_⟩⟩
      · rw [if_neg (by unfold isD; omega)] at K
        exact stay K
      · rw [if_pos ⟨hv0, hp, hc1, hc2⟩] at K
        rw [rd_p, h3]
        have hS' := sc_at_rd (p := M s 1 + 1) (w := 0) Hs hS2 (by omega) (by omega)
        have ha := scn_arr Hs a1
        have eg : (rd M s (M s 1 + 1) 0) a = M a := by
          funext j
          exact rd_ne (by omega)
        have ee : (rd M s (M s 1 + 1) 0) s 2 = M s 2 := rd_ne (by omega)
        refine num_loop Hs hm k (rd M s (M s 1 + 1) 0) _ (i + 1) hS' (by omega) (by omega) (by omega) ?_ (by omega) (rd_3 _ _ _ _) ?_
        · have h9 : (10 ^ (9 - k) : Nat) = 10 ^ (9 - (k + 1)) * 10 := by
            rw [show 9 - k = (9 - (k + 1)) + 1 by omega, Nat.pow_succ]
          rw [h9]
          omega
        · rw [eg, ee, rd_1, rd_rd]
          exact K
      · rw [if_neg (by unfold isD; omega)] at K
        exact stay K
theorem sp_num {m : Nat} (Hs : fx_scn s) (hS : sc_at M s a n) (hm : 1 ≤ m ∧ m ≤ 8) (K : Q (some (jI (rN (M a) (M s 2) m (M s 1) (M s 3)).1)) (rd M s (rN (M a) (M s 2) m (M s 1) (M s 3)).2.1 (rN (M a) (M s 2) m (M s 1) (M s 3)).2.2)) : wc kc (d + 1) 35 [jR s, jI m] M Q := by
  have hS2 := hS
  obtain ⟨a0, a1, a2, a3, a4, a5, a6, a7, a8⟩ := hS
  have ea : (M s 0).toNat = a := by
    rw [a0]
    rfl
  unfold rN at K
  refine s35 (h1n := n) (h2n := n) (h3n := n) Hs ?_
  rw [ea]
  have bad : ¬ (M s 3 = 0 ∧ M s 1 < M s 2 ∧ isD (M a (M s 1))) → Q (some (jI 0)) (fx_up M s 3 1) := fun h => by
    rw [if_neg h] at K
    rw [rd_w]
    exact K
  refine ⟨⟨by omega, by omega⟩, fun h => bad (by omega), fun h3 => ⟨⟨⟨by omega, by omega⟩, ⟨by omega, by omega⟩⟩, fun h => bad (by omega), fun hp => ?_⟩⟩
  have hg := a8 (M s 1) a3 (by omega)
  refine ⟨⟨⟨a1, by omega⟩, a3, by omega⟩, ⟨by omega, by omega⟩, fun h => bad (by unfold isD; omega), fun hc1 => ⟨⟨⟨a1, by omega⟩, a3, by omega⟩, ⟨by omega, by omega⟩, fun hc2 => ⟨⟨⟨a1, by omega⟩, a3, by omega⟩, ?_⟩, fun h => bad (by unfold isD; omega)⟩⟩
  rw [if_pos ⟨h3, hp, hc1, hc2⟩] at K
  rw [rd_p, h3]
  have hS' := sc_at_rd (p := M s 1 + 1) (w := 0) Hs hS2 (by omega) (by omega)
  have ha := scn_arr Hs a1
  have eg : (rd M s (M s 1 + 1) 0) a = M a := by
    funext j
    exact rd_ne (by omega)
  have ee : (rd M s (M s 1 + 1) 0) s 2 = M s 2 := rd_ne (by omega)
  refine num_loop Hs (by omega) (m - 1) (rd M s (M s 1 + 1) 0) _ 1 hS' (by omega) (by omega) (by omega) ?_ (by omega) (rd_3 _ _ _ _) ?_
  · have := Nat.pow_le_pow_right (n := 10) (by decide) (show 1 ≤ 9 - (m - 1) by omega)
    omega
  · rw [eg, ee, rd_1, rd_rd]
    exact K
end SC2
