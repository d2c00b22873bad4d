/-! PUZZLES: addEach of the class. -/
section PZF
variable {kc : List va_E} {d p : Nat} {Q : Option fx_V → fx_M → Prop} {Z : PZ}
theorem neL_len (l : List Int) : (neL l).length = if l = [] then 0 else 1 := by
  unfold neL
  split <;> rfl
theorem each_loop {s k n : Int} (Hp : fx_puz p) (ho : pz_ok Z) (hs : 0 ≤ s ∧ s < 3) (hk : 0 ≤ k ∧ k < 8) (hn : 0 ≤ n ∧ n ≤ 99) (hroom : Z.2.2.2.1.length + (eL s Z.1 Z.2.1 (Z.1 * Z.2.1).toNat).length ≤ 12) : ∀ (t c : Nat) (M : fx_M), (c : Int) + t = Z.1 * Z.2.1 → cz M p (z_adds Z k n (eL s Z.1 Z.2.1 c)) → pz_ok (z_adds Z k n (eL s Z.1 Z.2.1 c)) → (∀ M', cz M' p (z_adds Z k n (eL s Z.1 Z.2.1 (Z.1 * Z.2.1).toNat)) → pz_ok (z_adds Z k n (eL s Z.1 Z.2.1 (Z.1 * Z.2.1).toNat)) → pfr p M M' → Q (some (jR 1000013)) M') → wp kc (d + 2) 55 79 [some (jR p), some (jI s), some (jI k), some (jI n), none, none, some (jI c), none, none, none] [] M Q
  | 0, c, M, hc, hz, hoz, K => by
    have h9 := pz_n ho
    have hcN : (Z.1 * Z.2.1).toNat = c := by omega
    have z2 : M p 2 = Z.1 * Z.2.1 := hz.2.2.1
    rw [hcN] at K
    refine s55_79 Hp ?_
    rw [z2]
    exact ⟨⟨⟨by omega, by omega⟩, ⟨by omega, by omega⟩⟩, fun _ => K M hz hoz (pfr_rf p M), fun h => by omega⟩
  | t + 1, c, M, hc, hz, hoz, K => by
    have h9 := pz_n ho
    have z2 : M p 2 = Z.1 * Z.2.1 := hz.2.2.1
    have e1 : ((c + 1 : Nat) : Int) = (c : Int) + 1 := by omega
    have hmono : (eL s Z.1 Z.2.1 (c + 1)).length ≤ (eL s Z.1 Z.2.1 (Z.1 * Z.2.1).toNat).length := eL_mono (by omega)
    have hlen : (eL s Z.1 Z.2.1 (c + 1)).length = (eL s Z.1 Z.2.1 c).length + ((neL (eaL s Z.1 Z.2.1 c 0)).length + (neL (eaL s Z.1 Z.2.1 c 1)).length) := by
      rw [eL, List.length_append, List.length_append]
    have l0 := neL_len (eaL s Z.1 Z.2.1 c 0)
    have l1 := neL_len (eaL s Z.1 Z.2.1 c 1)
    refine s55_79 Hp ?_
    rw [z2]
    refine ⟨⟨⟨by omega, by omega⟩, ⟨by omega, by omega⟩⟩, fun h => by omega, fun _ => ?_⟩
    refine each_one (b := 0) Hp ho hs hk hn (Or.inl rfl) ⟨by omega, by omega⟩ hz hoz (fun hne => ?_) (fun M1 m1 o1 f1 => ?_)
    · rw [if_neg hne] at l0
      omega
    · refine each_one (b := 1) Hp ho hs hk hn (Or.inr rfl) ⟨by omega, by omega⟩ m1 o1 (fun hne => ?_) (fun M2 m2 o2 f2 => ?_)
      · rw [if_neg hne] at l1
        rw [List.length_append]
        omega
      · refine s55_91 Hp ⟨⟨by omega, by omega⟩, fun _ => ?_, fun h => by omega⟩
        rw [List.append_assoc] at m2 o2
        have ih := each_loop Hp ho hs hk hn hroom t (c + 1) M2 (by omega) m2 o2 (fun M' a1 a2 a3 => K M' a1 a2 (pfr_tr (pfr_tr f1 f2) a3))
        rw [e1] at ih
        exact ih
/-- addEach: no number, no room, or done -/
theorem sp_addEach {M : fx_M} {s k n : Int} (Hp : fx_puz p) (hz : cz M p Z) (ho : pz_ok Z) (hs : 0 ≤ s ∧ s < 3) (hk : 0 ≤ k ∧ k < 8) (hn : 0 ≤ n ∧ n < 1000) (K1 : 99 < n → Q (some (jR 1000019)) M) (K2 : n ≤ 99 → 12 < (Z.2.2.2.1.length : Int) + eMany s Z.1 Z.2.1 → Q (some (jR 1000021)) M) (K3 : n ≤ 99 → (Z.2.2.2.1.length : Int) + eMany s Z.1 Z.2.1 ≤ 12 → ∀ M', cz M' p (z_adds Z k n (eL s Z.1 Z.2.1 (Z.1 * Z.2.1).toNat)) → pz_ok (z_adds Z k n (eL s Z.1 Z.2.1 (Z.1 * Z.2.1).toNat)) → pfr p M M' → Q (some (jR 1000013)) M') : wc kc (d + 2) 55 [jR p, jI s, jI k, jI n] M Q := by
  have h9 := pz_n ho
  have w3 : 1 ≤ Z.1 ∧ Z.1 ≤ 3 := ⟨ho.1, ho.2.1⟩
  have h3 : 1 ≤ Z.2.1 ∧ Z.2.1 ≤ 3 := ⟨ho.2.2.1, ho.2.2.2.1⟩
  have o7 := ho.2.2.2.2.2.2.1
  have hl := eL_len (side := s) hs w3 h3
  have hz2 := hz
  obtain ⟨z0, z1, z2, z3, z4, z5, z6, z7, z8⟩ := hz
  have em : (if s = 0 then (M p 1 : Int) else (if s = 1 then (M p 0 : Int) else (((M p 0) - 1) * (M p 1)) + ((M p 0) * ((M p 1) - 1)))) = eMany s Z.1 Z.2.1 := by
    unfold eMany
    rw [z0, z1]
  have hm : 0 ≤ eMany s Z.1 Z.2.1 ∧ eMany s Z.1 Z.2.1 ≤ 12 := by
    refine ⟨by omega, ?_⟩
    have ha : Z.1 = 1 ∨ Z.1 = 2 ∨ Z.1 = 3 := by omega
    have hb : Z.2.1 = 1 ∨ Z.2.1 = 2 ∨ Z.2.1 = 3 := by omega
    unfold eMany
    rcases ha with ha | ha | ha <;> rcases hb with hb | hb | hb <;> rw [ha, hb] <;> (repeat' split) <;> omega
  refine s55 Hp ?_
  rw [em, z4]
  refine ⟨⟨by omega, by omega⟩, fun h99 => ⟨⟨by omega, by omega⟩, fun _ => ⟨by omega, by omega⟩, ⟨by omega, by omega⟩, fun hr => ?_, fun hr => K2 h99 hr⟩, fun h99 => K1 h99⟩
  have hK := K3 h99 hr
  refine each_loop Hp ho hs hk ⟨hn.1, h99⟩ (by omega) (Z.1 * Z.2.1).toNat 0 M (by omega) ?_ ?_ hK
  · show cz M p (z_adds Z k n [])
    rw [z_adds_nil]
    exact hz2
  · show pz_ok (z_adds Z k n [])
    rw [z_adds_nil]
    exact ho
end PZF
