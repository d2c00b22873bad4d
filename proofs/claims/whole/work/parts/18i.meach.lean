/-! PUZZLES: addEach of the reference: rows, columns. -/
section PZI
variable {kc : List va_E} {d : Nat} {Q : Option fx_V → fx_M → Prop} {Z : PZ} {u : Int}
theorem mfill_loop {l : List Int} {s j m : Int} (hs : s = 0 ∨ s = 1) (h3 : l.length ≤ 3) (hx : ∀ (i : Nat) (x : Int), l[i]? = some x → x = if s = 0 then Z.1 * j + (i : Int) else Z.1 * (i : Int) + j) : ∀ (t : Nat) (N : fx_M) (i : Nat), i + t = l.length → N 133 12 = l.length → N 133 14 = piS.getD s.toNat 0 → (∀ (a : Nat) (x : Int), l[a]? = some x → a < i → N 137 a = x) → (∀ N', (∀ (a : Nat) (x : Int), l[a]? = some x → N' 137 a = x) → (∀ b y, b ≠ 137 → N' b y = N b y) → wc kc d 242 [jR 133, jI u] N' (fun v M1 => wp kc (d + 1) 243 234 [some (jR 133), some (jI u), some (jI Z.1), some (jI Z.2.1), some (jI m), some (jI j), none] (v.toList ++ []) M1 Q)) → wp kc (d + 1) 243 181 [some (jR 133), some (jI u), some (jI Z.1), some (jI Z.2.1), some (jI m), some (jI j), some (jI i)] [] N Q
  | 0, N, i, hi, h12, h14, ha, K => by
    refine s243_181 ?_
    rw [h12]
    exact ⟨⟨⟨by omega, by omega⟩, ⟨by omega, by omega⟩⟩, fun _ => K N (fun a x hax => ha a x hax (by
      have := (List.getElem?_eq_some_iff.mp hax).1
      omega)) (fun _ _ _ => rfl), fun h => by omega⟩
  | t + 1, N, i, hi, h12, h14, ha, K => by
    have hlt : i < l.length := by omega
    have hg : l[i]? = some l[i] := List.getElem?_eq_getElem hlt
    have e1 : ((i + 1 : Nat) : Int) = (i : Int) + 1 := by omega
    have ev := hx i _ hg
    have h53 : N 133 14 = 53 ↔ s = 0 := by
      rw [h14]
      rcases hs with hs | hs <;> subst hs <;> decide
    have h14b : N 133 14 = 53 ∨ N 133 14 = 54 := by
      rw [h14]
      rcases hs with hs | hs <;> subst hs <;> decide
    have ev2 : (if N 133 14 = 53 then (Z.1 * j + (i : Int) : Int) else Z.1 * (i : Int) + j) = l[i] := by
      rw [ev]
      by_cases h0 : s = 0
      · rw [if_pos (h53.mpr h0), if_pos h0]
      · rw [if_neg (fun hy => h0 (h53.mp hy)), if_neg h0]
    refine s243_181 ?_
    rw [h12, ev2]
    refine ⟨⟨⟨by omega, by omega⟩, ⟨by omega, by omega⟩⟩, fun h => by omega, fun _ => ⟨⟨by omega, by omega⟩, ⟨by omega, by omega⟩, ?_⟩⟩
    have ih := mfill_loop (m := m) hs h3 hx t (fx_up N 137 i l[i]) (i + 1) (by omega) (by rw [fx_up_na (by decide), h12]) (by rw [fx_up_na (by decide), h14]) (fun a x hax hai => by
      by_cases hx2 : a = i
      · subst hx2
        rw [fx_up_self]
        rw [hg] at hax
        exact Option.some.inj hax
      · rw [fx_up_nk (by omega)]
        exact ha a x hax (by omega)) (fun N' a1 a2 => K N' a1 (fun b y hb => by rw [a2 b y hb, fx_up_na hb]))
    rw [e1] at ih
    exact ih
theorem mL_len {s w h : Int} : ∀ (j : Nat), (mL s w h j).length = j
  | 0 => rfl
  | j + 1 => by
    rw [mL, List.length_append, mL_len j]
    rfl
theorem mrows_loop {s k n : Int} (hu : 0 ≤ u ∧ u < 10) (ho : pz_ok Z) (hs : s = 0 ∨ s = 1) (hk : 0 ≤ k ∧ k < 8) (hn : 0 ≤ n ∧ n ≤ 99) (hroom : (Z.2.2.2.1.length : Int) + eMany s Z.1 Z.2.1 ≤ 12) : ∀ (t j : Nat) (M : fx_M), (j : Int) + t = eMany s Z.1 Z.2.1 → mz M u (z_adds Z k n (mL s Z.1 Z.2.1 j)) → pz_ok (z_adds Z k n (mL s Z.1 Z.2.1 j)) → M 133 10 = piK.getD k.toNat 0 → M 133 11 = n → M 133 14 = piS.getD s.toNat 0 → (∀ M', mz M' u (z_adds Z k n (mL s Z.1 Z.2.1 (eMany s Z.1 Z.2.1).toNat)) → pz_ok (z_adds Z k n (mL s Z.1 Z.2.1 (eMany s Z.1 Z.2.1).toNat)) → ufr2 u M M' → Q (some (jI 0)) M') → wp kc (d + 2) 243 153 [some (jR 133), some (jI u), some (jI Z.1), some (jI Z.2.1), some (jI (eMany s Z.1 Z.2.1)), some (jI j), none] [] M Q
  | 0, j, M, hj, hz, hoz, h10, h11, h14, K => by
    have hcN : (eMany s Z.1 Z.2.1).toNat = j := by omega
    rw [hcN] at K
    exact s243_153 ⟨⟨⟨by omega, by omega⟩, ⟨by omega, by omega⟩⟩, fun _ => K M hz hoz (ufr2_rf u M), fun h => by omega⟩
  | t + 1, j, M, hj, hz, hoz, h10, h11, h14, K => by
    have w3 : 1 ≤ Z.1 ∧ Z.1 ≤ 3 := ⟨ho.1, ho.2.1⟩
    have h3 : 1 ≤ Z.2.1 ∧ Z.2.1 ≤ 3 := ⟨ho.2.2.1, ho.2.2.2.1⟩
    have hok := mrow_ok (s := s) (j := (j : Int)) hs w3 h3 ⟨by omega, by omega⟩
    have e1 : ((j + 1 : Nat) : Int) = (j : Int) + 1 := by omega
    have h53 : M 133 14 = 53 ↔ s = 0 := by
      rw [h14]
      rcases hs with hs | hs <;> subst hs <;> decide
    have h14b : M 133 14 = 53 ∨ M 133 14 = 54 := by
      rw [h14]
      rcases hs with hs | hs <;> subst hs <;> decide
    have el : (if M 133 14 = 53 then (Z.1 : Int) else Z.2.1) = ((mrow s Z.1 Z.2.1 j).length : Int) := by
      rw [mrow_len]
      by_cases h0 : s = 0
      · rw [if_pos (h53.mpr h0), if_pos h0]
        omega
      · rw [if_neg (fun hy => h0 (h53.mp hy)), if_neg h0]
        omega
    have hll := mL_len (s := s) (w := Z.1) (h := Z.2.1) j
    refine s243_153 ⟨⟨⟨by omega, by omega⟩, ⟨by omega, by omega⟩⟩, fun h => by omega, fun _ => ⟨⟨by omega, by omega⟩, ?_⟩⟩
    rw [el]
    refine mfill_loop (l := mrow s Z.1 Z.2.1 j) hs hok.1 (fun i x hx => mrow_get hx) (mrow s Z.1 Z.2.1 j).length _ 0 (by omega) (fx_up_self _ _ _ _) (by rw [fx_up_nk (by decide), h14]) (fun a x _ h => by omega) (fun N' n1 n2 => ?_)
    have nf : ∀ b y, b ≠ 133 → b ≠ 137 → N' b y = M b y := fun b y b1 b2 => by rw [n2 b y b2, fx_up_na b1]
    refine mz_more (l := mrow s Z.1 Z.2.1 j) (ls := mL s Z.1 Z.2.1 j) (k := k) (n := n) (Z := Z) hu (mz_fr hz (pz_4 hoz) nf) hoz (by omega) hk hn hok.2.1 (by omega) hok.2.2.1 hok.2.2.2 (by rw [n2 _ _ (by decide), fx_up_nk (by decide), h10]) (by rw [n2 _ _ (by decide), fx_up_nk (by decide), h11]) (by rw [n2 _ _ (by decide), fx_up_self]) n1 (fun M' m1 m2 m3 => s243_234 ?_)
    have fM : ufr2 u M M' := fun b y a1 a2 a3 a4 a5 a6 => by rw [m3 b y a3 a4 a5 a6, n2 b y a2, fx_up_ne a1]
    have ih := mrows_loop hu ho hs hk hn hroom t (j + 1) M' (by omega) m1 m2 (by rw [fM 133 10 (by omega) (by decide) (by omega) (by omega) (by omega) (by omega), h10]) (by rw [fM 133 11 (by omega) (by decide) (by omega) (by omega) (by omega) (by omega), h11]) (by rw [fM 133 14 (by omega) (by decide) (by omega) (by omega) (by omega) (by omega), h14]) (fun P b1 b2 b3 => K P b1 b2 (ufr2_tr fM b3))
    rw [e1] at ih
    exact ih
/-- addEach of the reference: 3 no number, 4 no room, 0 done -/
theorem sp_maddEach {M : fx_M} {s k n : Int} (hu : 0 ≤ u ∧ u < 10) (hz : mz M u Z) (ho : pz_ok Z) (hs : 0 ≤ s ∧ s < 3) (hk : 0 ≤ k ∧ k < 8) (hn : 0 ≤ n ∧ n < 1000) (h10 : M 133 10 = piK.getD k.toNat 0) (h11 : M 133 11 = n) (h14 : M 133 14 = piS.getD s.toNat 0) (K1 : 99 < n → Q (some (jI 3)) M) (K2 : n ≤ 99 → 12 < (Z.2.2.2.1.length : Int) + eMany s Z.1 Z.2.1 → Q (some (jI 4)) M) (K3 : n ≤ 99 → (Z.2.2.2.1.length : Int) + eMany s Z.1 Z.2.1 ≤ 12 → ∀ M', mz M' u (z_adds Z k n (eL s Z.1 Z.2.1 (Z.1 * Z.2.1).toNat)) → pz_ok (z_adds Z k n (eL s Z.1 Z.2.1 (Z.1 * Z.2.1).toNat)) → ufr2 u M M' → Q (some (jI 0)) M') : wc kc (d + 3) 243 [jR 133, jI u] M Q := by
  have h9 := pz_n ho
  have w3 : 1 ≤ Z.1 ∧ Z.1 ≤ 3 := ⟨ho.1, ho.2.1⟩
  have h3 : 1 ≤ Z.2.1 ∧ Z.2.1 ≤ 3 := ⟨ho.2.2.1, ho.2.2.2.1⟩
  have o7 := ho.2.2.2.2.2.2.1
  have hl := eL_len (side := s) hs w3 h3
  have hz2 := hz
  obtain ⟨z0, z1, z2, z3, z4, z5⟩ := hz
  have hsc : s = 0 ∨ s = 1 ∨ s = 2 := by omega
  have c53 : M 133 14 = 53 ↔ s = 0 := by
    rw [h14]
    rcases hsc with hs | hs | hs <;> subst hs <;> decide
  have c54 : M 133 14 = 54 ↔ s = 1 := by
    rw [h14]
    rcases hsc with hs | hs | hs <;> subst hs <;> decide
  have c55 : M 133 14 = 55 ↔ s = 2 := by
    rw [h14]
    rcases hsc with hs | hs | hs <;> subst hs <;> decide
  have em : (if M 133 14 = 53 then (M 147 u : Int) else (if M 133 14 = 54 then (M 146 u : Int) else ((M 147 u) * ((M 146 u) - 1)) + ((M 146 u) * ((M 147 u) - 1)))) = eMany s Z.1 Z.2.1 := by
    unfold eMany
    rw [z0, z1]
    by_cases h0 : s = 0
    · rw [if_pos (c53.mpr h0), if_pos h0]
    · rw [if_neg (fun h => h0 (c53.mp h)), if_neg h0]
      by_cases h1 : s = 1
      · rw [if_pos (c54.mpr h1), if_pos h1]
      · rw [if_neg (fun h => h1 (c54.mp h)), if_neg h1, Int.mul_comm Z.2.1]
  have hm : 0 ≤ eMany s Z.1 Z.2.1 ∧ eMany s Z.1 Z.2.1 ≤ 12 := by
    refine ⟨by omega, ?_⟩
    have ha : Z.1 = 1 ∨ Z.1 = 2 ∨ Z.1 = 3 := by omega
    have hb : Z.2.1 = 1 ∨ Z.2.1 = 2 ∨ Z.2.1 = 3 := by omega
    unfold eMany
    rcases ha with ha | ha | ha <;> rcases hb with hb | hb | hb <;> rw [ha, hb] <;> (repeat' split) <;> omega
  have h14i : fx_in32 (M 133 14) := by
    have : M 133 14 = 53 ∨ M 133 14 = 54 ∨ M 133 14 = 55 := by
      rcases hsc with h | h | h
      · exact Or.inl (c53.mpr h)
      · exact Or.inr (Or.inl (c54.mpr h))
      · exact Or.inr (Or.inr (c55.mpr h))
    exact ⟨by omega, by omega⟩
  refine s243 ?_
  rw [em, h11, z3]
  refine ⟨hu, hu, ⟨by omega, by omega⟩, fun h99 => ⟨h14i, fun _ => h14i, hu, ⟨by omega, by omega⟩, fun hr => ⟨h14i, fun hne => ?_, fun he => ?_⟩, fun hr => K2 h99 hr⟩, fun h99 => K1 h99⟩
  · have hs01 : s = 0 ∨ s = 1 := by
      have : s ≠ 2 := fun h => hne (c55.mpr h)
      omega
    have hK := K3 h99 hr
    rw [← mL_eq hs01 w3 h3] at hK
    rw [z0, z1]
    refine mrows_loop hu ho hs01 hk ⟨hn.1, h99⟩ hr (eMany s Z.1 Z.2.1).toNat 0 M (by omega) ?_ ?_ h10 h11 h14 hK
    · show mz M u (z_adds Z k n [])
      rw [z_adds_nil]
      exact hz2
    · show pz_ok (z_adds Z k n [])
      rw [z_adds_nil]
      exact ho
  · have hs2 : s = 2 := c55.mp he
    subst hs2
    have hK := K3 h99 hr
    rw [z0, z1]
    refine mpairs_loop hu ho hk ⟨hn.1, h99⟩ (by omega) (Z.1 * Z.2.1).toNat 0 M (by omega) ?_ ?_ h10 h11 hK
    · show mz M u (z_adds Z k n [])
      rw [z_adds_nil]
      exact hz2
    · show pz_ok (z_adds Z k n [])
      rw [z_adds_nil]
      exact ho
end PZI
