/-! FORMS: how many maps and renamings there are, on both sides. -/
def rgO (R : PR) : Bool := R.1 == 7 || R.1 == 0 || R.1 == 2
def rgs (Z : PZ) : Nat := if Z.2.2.2.1.all rgO = true then fcN Z.2.2.1.toNat else 1
theorem rgs_b {Z : PZ} (ho : pz_ok Z) : 1 ≤ rgs Z ∧ rgs Z ≤ fcN Z.2.2.1.toNat ∧ fcN Z.2.2.1.toNat ≤ 24 := by
  have h5 := ho.2.2.2.2.1
  have h6 := ho.2.2.2.2.2.1
  have hf : ∀ s : Fin 5, 1 ≤ fcN (s : Nat) ∧ fcN (s : Nat) ≤ 24 := by decide
  have h1 := hf ⟨Z.2.2.1.toNat, by omega⟩
  dsimp only at h1
  unfold rgs
  split
  · exact ⟨h1.1, Nat.le_refl _, h1.2⟩
  · exact ⟨Nat.le_refl _, h1.1, h1.2⟩
section RGS
variable {kc : List va_E} {d p : Nat} {Q : Option fx_V → fx_M → Prop} {M : fx_M} {Z : PZ} {u : Int}
theorem sp_maps (Hp : fx_puz p) (hz : cz M p Z) (ho : pz_ok Z) (K : Q (some (jI (mps Z.1 Z.2.1))) M) : wc kc (d + 1) 148 [jR p] M Q := by
  obtain ⟨o1, o2, o3, o4, _⟩ := ho
  refine s148 Hp ?_
  rw [hz.1, hz.2.1]
  exact ⟨⟨by omega, by omega⟩, ⟨by omega, by omega⟩, K⟩
theorem sp_renamings (Hp : fx_puz p) (hz : cz M p Z) (ho : pz_ok Z) (K : Q (some (jI (rgs Z : Nat))) M) : wc kc (d + 1) 147 [jR p] M Q := by
  have h12 := ho.2.2.2.2.2.2.1
  have h5 := ho.2.2.2.2.1
  have h6 := ho.2.2.2.2.2.1
  have e3 := hz.2.2.2.1
  have e4 := hz.2.2.2.2.1
  have prod : Z.2.2.2.1.all rgO = true → wp kc (d + 1) 147 44 [some (jR p), some (jI 1), some (jI 2)] [] M Q := fun hall => by
    unfold rgs at K
    rw [if_pos hall] at K
    rcases (by omega : Z.2.2.1 = 1 ∨ Z.2.2.1 = 2 ∨ Z.2.2.1 = 3 ∨ Z.2.2.1 = 4) with e | e | e | e
    · rw [e] at e3 K
      refine s147_44 Hp ?_
      rw [e3]
      exact ⟨⟨⟨by omega, by omega⟩, ⟨by omega, by omega⟩⟩, fun _ => K, fun h => by omega⟩
    · rw [e] at e3 K
      refine s147_44 Hp ?_
      rw [e3]
      refine ⟨⟨⟨by omega, by omega⟩, ⟨by omega, by omega⟩⟩, fun h => by omega, fun _ => s147_44 Hp ?_⟩
      rw [e3]
      exact ⟨⟨⟨by omega, by omega⟩, ⟨by omega, by omega⟩⟩, fun _ => K, fun h => by omega⟩
    · rw [e] at e3 K
      refine s147_44 Hp ?_
      rw [e3]
      refine ⟨⟨⟨by omega, by omega⟩, ⟨by omega, by omega⟩⟩, fun h => by omega, fun _ => s147_44 Hp ?_⟩
      rw [e3]
      refine ⟨⟨⟨by omega, by omega⟩, ⟨by omega, by omega⟩⟩, fun h => by omega, fun _ => s147_44 Hp ?_⟩
      rw [e3]
      exact ⟨⟨⟨by omega, by omega⟩, ⟨by omega, by omega⟩⟩, fun _ => K, fun h => by omega⟩
    · rw [e] at e3 K
      refine s147_44 Hp ?_
      rw [e3]
      refine ⟨⟨⟨by omega, by omega⟩, ⟨by omega, by omega⟩⟩, fun h => by omega, fun _ => s147_44 Hp ?_⟩
      rw [e3]
      refine ⟨⟨⟨by omega, by omega⟩, ⟨by omega, by omega⟩⟩, fun h => by omega, fun _ => s147_44 Hp ?_⟩
      rw [e3]
      refine ⟨⟨⟨by omega, by omega⟩, ⟨by omega, by omega⟩⟩, fun h => by omega, fun _ => s147_44 Hp ?_⟩
      rw [e3]
      exact ⟨⟨⟨by omega, by omega⟩, ⟨by omega, by omega⟩⟩, fun _ => K, fun h => by omega⟩
  have z : ∀ (t r : Nat), r + t = Z.2.2.2.1.length → (∀ i : Nat, i < r → ∀ R, Z.2.2.2.1[i]? = some R → rgO R = true) → wp kc (d + 1) 147 2 [some (jR p), some (jI r), none] [] M Q := by
    intro t
    induction t with
    | zero =>
      intro r hr hS
      refine s147_2 Hp ?_
      rw [e4]
      refine ⟨⟨⟨by omega, by omega⟩, ⟨by omega, by omega⟩⟩, fun _ => prod ?_, fun h => by omega⟩
      rw [List.all_eq_true]
      intro R hR
      obtain ⟨i, hi⟩ := List.mem_iff_getElem?.mp hR
      have hil := (List.getElem?_eq_some_iff.mp hi).1
      exact hS i (by omega) R hi
    | succ t ih =>
      intro r hr hS
      have hrl : r < Z.2.2.2.1.length := by omega
      have hg : Z.2.2.2.1[r]? = some Z.2.2.2.1[r] := List.getElem?_eq_getElem hrl
      have hk := (hz.2.2.2.2.2.1 r _ hg).1
      have hR := ho.2.2.2.2.2.2.2.1 _ (List.getElem_mem hrl)
      have k0 := hR.1
      have k8 := hR.2.1
      have go : rgO Z.2.2.2.1[r] = true → wp kc (d + 1) 147 2 [some (jR p), some (jI ((r : Int) + 1)), none] [] M Q := fun hy => by
        have nx := ih (r + 1) (by omega) (fun i hi R hiR => by
          by_cases e : i = r
          · subst e
            rw [hg] at hiR
            cases hiR
            exact hy
          · exact hS i (by omega) R hiR)
        rw [show ((r + 1 : Nat) : Int) = (r : Int) + 1 by omega] at nx
        exact nx
      refine s147_2 Hp ?_
      rw [e4, hk]
      generalize hX : Z.2.2.2.1[r] = X at go k0 k8 hg ⊢
      refine ⟨⟨⟨by omega, by omega⟩, ⟨by omega, by omega⟩⟩, fun h => by omega, fun _ => ⟨⟨by omega, by omega⟩, ⟨by omega, by omega⟩, fun h7 => go ?_, fun n7 => ⟨⟨by omega, by omega⟩, fun h0 => go ?_, fun n0 => ⟨⟨by omega, by omega⟩, fun h2 => go ?_, fun n2 => ?_⟩⟩⟩⟩
      · unfold rgO
        rw [h7]
        rfl
      · unfold rgO
        rw [h0]
        rfl
      · unfold rgO
        rw [h2]
        rfl
      · have hn : ¬ (Z.2.2.2.1.all rgO = true) := fun hall => by
          rw [List.all_eq_true] at hall
          have := hall X (List.mem_of_getElem? hg)
          unfold rgO at this
          rw [Bool.or_eq_true, Bool.or_eq_true, beq_iff_eq, beq_iff_eq, beq_iff_eq] at this
          omega
        unfold rgs at K
        rw [if_neg hn] at K
        exact K
  exact s147 Hp (z Z.2.2.2.1.length 0 (by omega) (fun i hi => by omega))
theorem sp_mmaps (hu : 0 ≤ u ∧ u < 10) (hz : mz M u Z) (ho : pz_ok Z) (K : Q (some (jI (mps Z.1 Z.2.1))) M) : wc kc (d + 1) 287 [jR 133, jI u] M Q := by
  obtain ⟨o1, o2, o3, o4, _⟩ := ho
  refine s287 ?_
  rw [hz.1, hz.2.1]
  exact ⟨hu, hu, ⟨by omega, by omega⟩, ⟨by omega, by omega⟩, K⟩
theorem rg_pi : ∀ k : Fin 8, (if piK.getD (k : Nat) 0 = 45 then (1 : Int) else if piK.getD (k : Nat) 0 = 46 then 1 else if piK.getD (k : Nat) 0 = 50 then 1 else 0) = (if ((k : Nat) == 7 || (k : Nat) == 0 || (k : Nat) == 2) = true then 1 else 0) ∧ 40 ≤ piK.getD (k : Nat) 0 ∧ piK.getD (k : Nat) 0 ≤ 60 := by decide +kernel
theorem rgO_n {R : PR} (h : 0 ≤ R.1 ∧ R.1 < 8) : rgO R = (R.1.toNat == 7 || R.1.toNat == 0 || R.1.toNat == 2) := by
  unfold rgO
  obtain ⟨n, hn⟩ : ∃ n : Nat, R.1 = (n : Int) := ⟨R.1.toNat, by omega⟩
  rw [hn] at h ⊢
  rw [Int.toNat_natCast]
  have : ∀ n : Fin 8, (((n : Nat) : Int) == 7 || ((n : Nat) : Int) == 0 || ((n : Nat) : Int) == 2) = ((n : Nat) == 7 || (n : Nat) == 0 || (n : Nat) == 2) := by decide
  exact this ⟨n, by omega⟩
theorem sp_mrenamings (hu : 0 ≤ u ∧ u < 10) (hz : mz M u Z) (ho : pz_ok Z) (K : Q (some (jI (rgs Z : Nat))) M) : wc kc (d + 1) 288 [jR 133, jI u] M Q := by
  have h12 := ho.2.2.2.2.2.2.1
  have h5 := ho.2.2.2.2.1
  have h6 := ho.2.2.2.2.2.1
  have e3 := hz.2.2.1
  have e4 := hz.2.2.2.1
  have prod : wp kc (d + 1) 288 76 [some (jR 133), some (jI u), some (jI (if Z.2.2.2.1.all rgO = true then 1 else 0)), some (jI 1), some (jI 2)] [] M Q := by
    by_cases hall : Z.2.2.2.1.all rgO = true
    · unfold rgs at K
      rw [if_pos hall] at K ⊢
      rcases (by omega : Z.2.2.1 = 1 ∨ Z.2.2.1 = 2 ∨ Z.2.2.1 = 3 ∨ Z.2.2.1 = 4) with e | e | e | e
      · rw [e] at e3 K
        refine s288_76 ?_
        rw [e3]
        exact ⟨hu, ⟨⟨by omega, by omega⟩, ⟨by omega, by omega⟩⟩, fun _ => K, fun h => by omega⟩
      · rw [e] at e3 K
        refine s288_76 ?_
        rw [e3]
        refine ⟨hu, ⟨⟨by omega, by omega⟩, ⟨by omega, by omega⟩⟩, fun h => by omega, fun _ => ⟨⟨by omega, by omega⟩, fun h => by omega, fun _ => s288_76 ?_⟩⟩
        rw [e3]
        exact ⟨hu, ⟨⟨by omega, by omega⟩, ⟨by omega, by omega⟩⟩, fun _ => K, fun h => by omega⟩
      · rw [e] at e3 K
        refine s288_76 ?_
        rw [e3]
        refine ⟨hu, ⟨⟨by omega, by omega⟩, ⟨by omega, by omega⟩⟩, fun h => by omega, fun _ => ⟨⟨by omega, by omega⟩, fun h => by omega, fun _ => s288_76 ?_⟩⟩
        rw [e3]
        refine ⟨hu, ⟨⟨by omega, by omega⟩, ⟨by omega, by omega⟩⟩, fun h => by omega, fun _ => ⟨⟨by omega, by omega⟩, fun h => by omega, fun _ => s288_76 ?_⟩⟩
        rw [e3]
        exact ⟨hu, ⟨⟨by omega, by omega⟩, ⟨by omega, by omega⟩⟩, fun _ => K, fun h => by omega⟩
      · rw [e] at e3 K
        refine s288_76 ?_
        rw [e3]
        refine ⟨hu, ⟨⟨by omega, by omega⟩, ⟨by omega, by omega⟩⟩, fun h => by omega, fun _ => ⟨⟨by omega, by omega⟩, fun h => by omega, fun _ => s288_76 ?_⟩⟩
        rw [e3]
        refine ⟨hu, ⟨⟨by omega, by omega⟩, ⟨by omega, by omega⟩⟩, fun h => by omega, fun _ => ⟨⟨by omega, by omega⟩, fun h => by omega, fun _ => s288_76 ?_⟩⟩
        rw [e3]
        refine ⟨hu, ⟨⟨by omega, by omega⟩, ⟨by omega, by omega⟩⟩, fun h => by omega, fun _ => ⟨⟨by omega, by omega⟩, fun h => by omega, fun _ => s288_76 ?_⟩⟩
        rw [e3]
        exact ⟨hu, ⟨⟨by omega, by omega⟩, ⟨by omega, by omega⟩⟩, fun _ => K, fun h => by omega⟩
    · unfold rgs at K
      rw [if_neg hall] at K ⊢
      refine s288_76 ?_
      rw [e3]
      exact ⟨hu, ⟨⟨by omega, by omega⟩, ⟨by omega, by omega⟩⟩, fun _ => K, fun _ => ⟨⟨by omega, by omega⟩, fun _ => K, fun h => absurd rfl h⟩⟩
  have z : ∀ (t r : Nat), r + t = Z.2.2.2.1.length → wp kc (d + 1) 288 7 [some (jR 133), some (jI u), some (jI (if (Z.2.2.2.1.take r).all rgO = true then 1 else 0)), some (jI (12 * u + r)), none] [] M Q := by
    intro t
    induction t with
    | zero =>
      intro r hr
      rw [List.take_of_length_le (by omega)]
      refine s288_7 ?_
      rw [e4]
      exact ⟨hu, ⟨⟨by omega, by omega⟩, ⟨by omega, by omega⟩⟩, fun _ => prod, fun h => by omega⟩
    | succ t ih =>
      intro r hr
      have hrl : r < Z.2.2.2.1.length := by omega
      have hg : Z.2.2.2.1[r]? = some Z.2.2.2.1[r] := List.getElem?_eq_getElem hrl
      have hk := (hz.2.2.2.2.1 r _ hg).1
      have hR := ho.2.2.2.2.2.2.2.1 _ (List.getElem_mem hrl)
      have k0 := hR.1
      have k8 := hR.2.1
      have hp := rg_pi ⟨(Z.2.2.2.1[r]).1.toNat, by omega⟩
      dsimp only at hp
      have nx := ih (r + 1) (by omega)
      rw [List.take_succ_eq_append_getElem hrl, List.all_append, show 12 * u + ((r + 1 : Nat) : Int) = 12 * u + (r : Int) + 1 by omega] at nx
      have ev : (if (if (Z.2.2.2.1.take r).all rgO = true then (1 : Int) else 0) = 0 then (0 : Int) else (if piK.getD (Z.2.2.2.1[r]).1.toNat 0 = 45 then (1 : Int) else (if piK.getD (Z.2.2.2.1[r]).1.toNat 0 = 46 then (1 : Int) else (if piK.getD (Z.2.2.2.1[r]).1.toNat 0 = 50 then (1 : Int) else 0)))) = (if ((Z.2.2.2.1.take r).all rgO && [Z.2.2.2.1[r]].all rgO) = true then 1 else 0) := by
        rw [hp.1]
        have e1 : [Z.2.2.2.1[r]].all rgO = ((Z.2.2.2.1[r]).1.toNat == 7 || (Z.2.2.2.1[r]).1.toNat == 0 || (Z.2.2.2.1[r]).1.toNat == 2) := by
          rw [List.all_cons, List.all_nil, Bool.and_true]
          exact rgO_n ⟨k0, k8⟩
        rw [e1]
        cases (Z.2.2.2.1.take r).all rgO
        · rfl
        · rw [Bool.true_and, if_pos rfl, if_neg (by decide)]
      refine s288_7 ?_
      rw [e4, hk, ev]
      refine ⟨hu, ⟨⟨by omega, by omega⟩, ⟨by omega, by omega⟩⟩, fun h => by omega, fun _ => ⟨?_, fun _ => ⟨by omega, by omega⟩, fun _ => ⟨by omega, by omega⟩, fun _ _ => ⟨by omega, by omega⟩, fun _ _ => ⟨by omega, by omega⟩, fun _ _ _ => ⟨by omega, by omega⟩, fun _ _ _ => ⟨by omega, by omega⟩, nx⟩⟩
      split <;> decide
  have := z Z.2.2.2.1.length 0 (by omega)
  rw [show 12 * u + ((0 : Nat) : Int) = 12 * u by omega] at this
  exact s288 this
end RGS
