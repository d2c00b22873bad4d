/-! isMet, hanging, learn of the class. -/
section LRN
variable {kc : List va_E} {d p : Nat} {Q : Option fx_V → fx_M → Prop} {Z : PZ} {R : PR} {r : Nat}
theorem rule_in {Z : PZ} {R : PR} {r : Nat} (ho : pz_ok Z) (hR : Z.2.2.2.1[r]? = some R) : pr_ok (Z.1 * Z.2.1) R ∧ r < 12 := by
  have hr := (List.getElem?_eq_some_iff.mp hR).1
  have hmem : R ∈ Z.2.2.2.1 := by
    obtain ⟨h1, h2⟩ := List.getElem?_eq_some_iff.mp hR
    rw [← h2]
    exact List.getElem_mem h1
  have o7 := ho.2.2.2.2.2.2.1
  exact ⟨ho.2.2.2.2.2.2.2.1 R hmem, by omega⟩
theorem ism_loop {M : fx_M} {w : Nat} {hg : Int} (Hp : fx_puz p) (hz : cz M p Z) (ho : pz_ok Z) (hR : Z.2.2.2.1[r]? = some R) (hw : w < 4 ^ R.2.2.length) (hh : R.1 = 3 → fx_and (fx_shr hg (onB (wyx R.2.2.length w) : Nat)) 1 = bI (hgs (lnB Z.1 R.2.2) (onB (wyx R.2.2.length w)))) (K : Q (some (jI (bI ((wyx R.2.2.length w).all (fun x => decide (x < Z.2.2.1)) && met Z.1 R (wyx R.2.2.length w))))) M) : ∀ (t i : Nat), i + t = R.2.2.length → wp kc (d + 2) 78 33 [some (jR p), some (jI r), some (jI w), some (jI hg), some (jI (mst w i).1), some (jI (mst w i).2.1), some (jI (mst w i).2.2.1), some (jI (mst w i).2.2.2.1), some (jI (mst w i).2.2.2.2.1), some (jI (mst w i).2.2.2.2.2.1), some (jI (mst w i).2.2.2.2.2.2.1), some (jI (mst w i).2.2.2.2.2.2.2.1), some (jI (mst w i).2.2.2.2.2.2.2.2), some (jI i), none] [] M Q := by
  intro t
  induction t with
  | zero =>
    intro i hi
    have hi : i = R.2.2.length := by omega
    subst hi
    exact ism_end Hp hz ho hR hw hh K (l0 := none)
  | succ t ih =>
    intro i hi
    obtain ⟨⟨k1, k2, k3, k4, k5, k6, k7, k8⟩, hr12⟩ := rule_in ho hR
    obtain ⟨a1, a2, a3, a4, a5⟩ := hz.2.2.2.2.2.1 r R hR
    have hw256 : w < 256 := Nat.lt_of_lt_of_le hw (Nat.pow_le_pow_right (n := 4) (by decide) k6)
    have hb := mst_all ⟨w, hw256⟩ ⟨i, by omega⟩
    unfold mst_bd at hb
    simp only [decide_eq_true_eq] at hb
    have hs := msy_all ⟨w, hw256⟩ ⟨i, by omega⟩
    simp only at hs
    have hs2 := msy_all ⟨w, hw256⟩ ⟨0, by omega⟩
    simp only at hs2
    have hx : 0 ≤ fx_and (fx_shr (w : Int) (2 * (i : Int))) 3 ∧ fx_and (fx_shr (w : Int) (2 * (i : Int))) 3 ≤ 3 := by
      show 0 ≤ msy w i ∧ msy w i ≤ 3
      rw [hs]
      omega
    have hx0 : 0 ≤ fx_and (w : Int) 3 ∧ fx_and (w : Int) 3 ≤ 3 := by
      rw [fx_and_3]
      omega
    have e1 : ((i + 1 : Nat) : Int) = (i : Int) + 1 := by omega
    have nx := ih (i + 1) (by omega)
    rw [e1] at nx
    refine s78_33 Hp ?_
    rw [a3]
    refine ⟨⟨by omega, by omega⟩, ⟨⟨by omega, by omega⟩, ⟨by omega, by omega⟩⟩, fun h => by omega, fun _ => ?_⟩
    have hd : -3 ≤ fx_and (fx_shr (w : Int) (2 * (i : Int))) 3 - (mst (w : Int) i).2.2.2.2.2.2.2.2 ∧ fx_and (fx_shr (w : Int) (2 * (i : Int))) 3 - (mst (w : Int) i).2.2.2.2.2.2.2.2 ≤ 3 := by omega
    have hab : fx_in32 (if (0 : Int) ≤ fx_and (fx_shr (w : Int) (2 * (i : Int))) 3 - (mst (w : Int) i).2.2.2.2.2.2.2.2 then (fx_and (fx_shr (w : Int) (2 * (i : Int))) 3 - (mst (w : Int) i).2.2.2.2.2.2.2.2 : Int) else 0 - (fx_and (fx_shr (w : Int) (2 * (i : Int))) 3 - (mst (w : Int) i).2.2.2.2.2.2.2.2)) := by
      constructor
      · split <;> omega
      · split <;> omega
    exact ⟨⟨by omega, by omega⟩, ⟨by omega, by omega⟩, ⟨by omega, by omega⟩, ⟨by omega, by omega⟩, ⟨by omega, by omega⟩, ⟨by omega, by omega⟩, fun _ => ⟨by omega, by omega⟩, fun _ _ => ⟨by omega, by omega⟩, fun _ _ => ⟨⟨by omega, by omega⟩, hab⟩, fun _ _ => ⟨by omega, by omega⟩, fun _ _ => ⟨by omega, by omega⟩, fun _ _ _ => ⟨by omega, by omega⟩, fun _ _ _ => ⟨⟨by omega, by omega⟩, hab⟩, fun _ _ _ => ⟨by omega, by omega⟩, fun _ _ _ => ⟨⟨by omega, by omega⟩, hab⟩, nx⟩
/-- isMet -/
theorem sp_isMet {M : fx_M} {w : Nat} {hg : Int} (Hp : fx_puz p) (hz : cz M p Z) (ho : pz_ok Z) (hR : Z.2.2.2.1[r]? = some R) (hw : w < 4 ^ R.2.2.length) (hh : R.1 = 3 → fx_and (fx_shr hg (onB (wyx R.2.2.length w) : Nat)) 1 = bI (hgs (lnB Z.1 R.2.2) (onB (wyx R.2.2.length w)))) (K : Q (some (jI (bI ((wyx R.2.2.length w).all (fun x => decide (x < Z.2.2.1)) && met Z.1 R (wyx R.2.2.length w))))) M) : wc kc (d + 2) 78 [jR p, jI r, jI w, jI hg] M Q :=
  s78 Hp (ism_loop Hp hz ho hR hw hh K R.2.2.length 0 (by omega))
end LRN
