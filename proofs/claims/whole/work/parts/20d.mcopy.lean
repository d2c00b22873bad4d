/-! PUZZLES: copy of the reference. -/
section MCP
variable {kc : List va_E} {d : Nat} {Q : Option fx_V → fx_M → Prop}
theorem mcr_loop {a b : Int} (ha : 0 ≤ a ∧ a < 120) (hb : 0 ≤ b ∧ b < 120) (hab : a ≠ b) : ∀ (k : Nat) (M : fx_M) (i : Int), i + k = 4 → 0 ≤ i → (∀ M', (∀ j : Int, i ≤ j → j < 4 → M' 153 (4 * b + j) = M 153 (4 * a + j)) → (∀ c j, ¬ (c = 153 ∧ 4 * b + i ≤ j ∧ j < 4 * b + 4) → M' c j = M c j) → Q none M') → wp kc (d + 1) 265 38 [some (jR 133), some (jI a), some (jI b), some (jI i)] [] M Q
  | 0, M, i, hi, h0, K => s265_38 ⟨⟨by omega, by omega⟩, fun _ => K M (fun j j0 j1 => by omega) (fun _ _ _ => rfl), fun h => by omega⟩
  | k + 1, M, i, hi, h0, K => by
    refine s265_38 ⟨⟨by omega, by omega⟩, fun h => by omega, fun _ => ⟨⟨by omega, by omega⟩, ⟨by omega, by omega⟩, ?_⟩⟩
    refine mcr_loop ha hb hab k _ (i + 1) (by omega) (by omega) (fun M' h1 h2 => K M' (fun j j0 j1 => ?_) (fun c j hc => ?_))
    · by_cases hj : j = i
      · subst hj
        rw [h2 153 _ (by omega), fx_up_self]
      · rw [h1 j (by omega) j1, fx_up_nk (by omega)]
    · rw [h2 c j (by omega), fx_up_ne (by omega)]
/-- copyRule -/
theorem sp_copyRule {M : fx_M} {a b : Int} (ha : 0 ≤ a ∧ a < 120) (hb : 0 ≤ b ∧ b < 120) (hab : a ≠ b) (K : ∀ M', M' 150 b = M 150 a → M' 151 b = M 151 a → M' 152 b = M 152 a → (∀ j : Int, 0 ≤ j → j < 4 → M' 153 (4 * b + j) = M 153 (4 * a + j)) → (∀ c j, ¬ ((c = 150 ∨ c = 151 ∨ c = 152) ∧ j = b) → ¬ (c = 153 ∧ 4 * b ≤ j ∧ j < 4 * b + 4) → M' c j = M c j) → Q none M') : wc kc (d + 1) 265 [jR 133, jI a, jI b] M Q := by
  refine s265 ⟨ha, hb, ha, hb, ha, hb, ?_⟩
  refine mcr_loop ha hb hab 4 _ 0 (by omega) (by omega) (fun M' h1 h2 => K M' ?_ ?_ ?_ (fun j j0 j1 => ?_) (fun c j c1 c2 => ?_))
  · rw [h2 _ _ (by omega), fx_up_na (by decide), fx_up_na (by decide), fx_up_self]
  · rw [h2 _ _ (by omega), fx_up_na (by decide), fx_up_self]
  · rw [h2 _ _ (by omega), fx_up_self]
  · rw [h1 j j0 j1, fx_up_na (by decide), fx_up_na (by decide), fx_up_na (by decide)]
  · rw [h2 c j (by omega), fx_up_ne (by omega), fx_up_ne (by omega), fx_up_ne (by omega)]
theorem mcg_loop {u v : Int} (hu : 0 ≤ u ∧ u < 10) (hv : 0 ≤ v ∧ v < 10) (huv : u ≠ v) : ∀ (k : Nat) (M : fx_M) (i : Int), i + k = 9 → 0 ≤ i → (∀ M', (∀ j : Int, i ≤ j → j < 9 → M' 154 (9 * v + j) = M 154 (9 * u + j)) → (∀ c j, ¬ (c = 154 ∧ 9 * v + i ≤ j ∧ j < 9 * v + 9) → M' c j = M c j) → Q none M') → wp kc (d + 1) 264 80 [some (jR 133), some (jI u), some (jI v), some (jI i)] [] M Q
  | 0, M, i, hi, h0, K => s264_80 ⟨⟨by omega, by omega⟩, fun _ => K M (fun j j0 j1 => by omega) (fun _ _ _ => rfl), fun h => by omega⟩
  | k + 1, M, i, hi, h0, K => by
    refine s264_80 ⟨⟨by omega, by omega⟩, fun h => by omega, fun _ => ⟨⟨by omega, by omega⟩, ⟨by omega, by omega⟩, ?_⟩⟩
    refine mcg_loop hu hv huv k _ (i + 1) (by omega) (by omega) (fun M' h1 h2 => K M' (fun j j0 j1 => ?_) (fun c j hc => ?_))
    · by_cases hj : j = i
      · subst hj
        rw [h2 154 _ (by omega), fx_up_self]
      · rw [h1 j (by omega) j1, fx_up_nk (by omega)]
    · rw [h2 c j (by omega), fx_up_ne (by omega)]
theorem mcs_loop {u v : Int} (hu : 0 ≤ u ∧ u < 10) (hv : 0 ≤ v ∧ v < 10) (huv : u ≠ v) : ∀ (k : Nat) (M : fx_M) (i : Int), i + k = 12 → 0 ≤ i → (∀ M', (∀ j : Int, i ≤ j → j < 12 → M' 150 (12 * v + j) = M 150 (12 * u + j) ∧ M' 151 (12 * v + j) = M 151 (12 * u + j) ∧ M' 152 (12 * v + j) = M 152 (12 * u + j) ∧ ∀ t : Int, 0 ≤ t → t < 4 → M' 153 (4 * (12 * v + j) + t) = M 153 (4 * (12 * u + j) + t)) → (∀ c j, ¬ ((c = 150 ∨ c = 151 ∨ c = 152) ∧ 12 * v + i ≤ j ∧ j < 12 * v + 12) → ¬ (c = 153 ∧ 4 * (12 * v + i) ≤ j ∧ j < 48 * v + 48) → M' c j = M c j) → wp kc (d + 2) 264 80 [some (jR 133), some (jI u), some (jI v), some (jI 0)] [] M' Q) → wp kc (d + 2) 264 50 [some (jR 133), some (jI u), some (jI v), some (jI i)] [] M Q
  | 0, M, i, hi, h0, K => s264_50 ⟨⟨by omega, by omega⟩, fun _ => K M (fun j j0 j1 => by omega) (fun _ _ _ _ => rfl), fun h => by omega⟩
  | k + 1, M, i, hi, h0, K => by
    refine s264_50 ⟨⟨by omega, by omega⟩, fun h => by omega, fun _ => sp_copyRule ⟨by omega, by omega⟩ ⟨by omega, by omega⟩ (by omega) (fun N n1 n2 n3 n4 n5 => s264_72 ?_)⟩
    refine mcs_loop hu hv huv k N (i + 1) (by omega) (by omega) (fun M' h1 h2 => K M' (fun j j0 j1 => ?_) (fun c j c1 c2 => ?_))
    · by_cases hj : j = i
      · subst hj
        refine ⟨by rw [h2 150 _ (by omega) (by omega), n1], by rw [h2 151 _ (by omega) (by omega), n2], by rw [h2 152 _ (by omega) (by omega), n3], fun t t0 t1 => by rw [h2 153 _ (by omega) (by omega), n4 t t0 t1]⟩
      · obtain ⟨a1, a2, a3, a4⟩ := h1 j (by omega) j1
        refine ⟨by rw [a1, n5 150 _ (by omega) (by omega)], by rw [a2, n5 151 _ (by omega) (by omega)], by rw [a3, n5 152 _ (by omega) (by omega)], fun t t0 t1 => by rw [a4 t t0 t1, n5 153 _ (by omega) (by omega)]⟩
    · rw [h2 c j (by omega) (by omega), n5 c j (by omega) (by omega)]
/-- copy of unit u to unit v -/
theorem sp_mcopy {M : fx_M} {u v : Int} {Z : PZ} (hu : 0 ≤ u ∧ u < 10) (hv : 0 ≤ v ∧ v < 10) (huv : u ≠ v) (hz : mz M u Z) (ho : pz_ok Z) (K : ∀ M', mz M' v Z → ufr v M M' → Q none M') : wc kc (d + 2) 264 [jR 133, jI u, jI v] M Q := by
  obtain ⟨z0, z1, z2, z3, z4, z5⟩ := hz
  have h7 := ho.2.2.2.2.2.2.1
  refine s264 ⟨hu, hv, hu, hv, hu, hv, hu, hv, ?_⟩
  refine mcs_loop hu hv huv 12 _ 0 (by omega) (by omega) (fun N n1 n2 => ?_)
  refine mcg_loop hu hv huv 9 N 0 (by omega) (by omega) (fun M' m1 m2 => K M' ?_ ?_)
  · have f : ∀ (c : Nat) (j : Int), c ≠ 150 → c ≠ 151 → c ≠ 152 → c ≠ 153 → c ≠ 154 → M' c j = (fx_up (fx_up (fx_up (fx_up M 146 v (M 146 u)) 147 v (M 147 u)) 148 v (M 148 u)) 149 v (M 149 u)) c j := fun c j c1 c2 c3 c4 c5 => by
      rw [m2 c j (by omega), n2 c j (by omega) (by omega)]
    have g : ∀ (c : Nat) (j : Int), c ≠ 146 → c ≠ 147 → c ≠ 148 → c ≠ 149 → (fx_up (fx_up (fx_up (fx_up M 146 v (M 146 u)) 147 v (M 147 u)) 148 v (M 148 u)) 149 v (M 149 u)) c j = M c j := fun c j c1 c2 c3 c4 => by
      rw [fx_up_na c4, fx_up_na c3, fx_up_na c2, fx_up_na c1]
    refine ⟨?_, ?_, ?_, ?_, fun r R hR => ?_, fun c hc => ?_⟩
    · rw [f _ _ (by decide) (by decide) (by decide) (by decide) (by decide), fx_up_na (by decide), fx_up_na (by decide), fx_up_na (by decide), fx_up_self]
      exact z0
    · rw [f _ _ (by decide) (by decide) (by decide) (by decide) (by decide), fx_up_na (by decide), fx_up_na (by decide), fx_up_self]
      exact z1
    · rw [f _ _ (by decide) (by decide) (by decide) (by decide) (by decide), fx_up_na (by decide), fx_up_self]
      exact z2
    · rw [f _ _ (by decide) (by decide) (by decide) (by decide) (by decide), fx_up_self]
      exact z3
    · obtain ⟨a1, a2, a3, a4⟩ := z4 r R hR
      have hr := (List.getElem?_eq_some_iff.mp hR).1
      have h4 := pz_4 ho R (List.mem_of_getElem? hR)
      obtain ⟨b1, b2, b3, b4⟩ := n1 r (by omega) (by omega)
      refine ⟨?_, ?_, ?_, fun i c hi => ?_⟩
      · rw [m2 _ _ (by omega), b1, g _ _ (by decide) (by decide) (by decide) (by decide)]
        exact a1
      · rw [m2 _ _ (by omega), b2, g _ _ (by decide) (by decide) (by decide) (by decide)]
        exact a2
      · rw [m2 _ _ (by omega), b3, g _ _ (by decide) (by decide) (by decide) (by decide)]
        exact a3
      · have hil := (List.getElem?_eq_some_iff.mp hi).1
        rw [m2 _ _ (by omega), b4 i (by omega) (by omega), g _ _ (by decide) (by decide) (by decide) (by decide)]
        exact a4 i c hi
    · rw [m1 c (by omega) (by omega), n2 _ _ (by omega) (by omega), g _ _ (by decide) (by decide) (by decide) (by decide)]
      exact z5 c hc
  · intro b j a1 a2 a3 a4
    rw [m2 b j (by omega), n2 b j (by omega) (by omega), fx_up_ne (by omega), fx_up_ne (by omega), fx_up_ne (by omega), fx_up_ne (by omega)]
end MCP
