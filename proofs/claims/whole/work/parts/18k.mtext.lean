/-! TEXTS of puzzles: the reference. -/
theorem mz_app {M : fx_M} {u : Int} {Z : PZ} {cs : List Int} (hz : mz M u Z) : mz (m_app M cs) u Z := by
  have f : ∀ (b : Nat) (j : Int), b ≠ 133 → b ≠ 136 → (m_app M cs) b j = M b j := fun b j h1 h2 => m_app_ne (by omega) h2
  obtain ⟨z0, z1, z2, z3, z4, z5⟩ := hz
  refine ⟨by rw [f _ _ (by decide) (by decide)]; exact z0, by rw [f _ _ (by decide) (by decide)]; exact z1, by rw [f _ _ (by decide) (by decide)]; exact z2, by rw [f _ _ (by decide) (by decide)]; exact z3, fun r R hR => ?_, fun c hc => by rw [f _ _ (by decide) (by decide)]; exact z5 c hc⟩
  obtain ⟨a1, a2, a3, a4⟩ := z4 r R hR
  exact ⟨by rw [f _ _ (by decide) (by decide)]; exact a1, by rw [f _ _ (by decide) (by decide)]; exact a2, by rw [f _ _ (by decide) (by decide)]; exact a3, fun i c hi => by rw [f _ _ (by decide) (by decide)]; exact a4 i c hi⟩
theorem piK_b : ∀ j : Fin 8, 45 ≤ piK.getD j 0 ∧ piK.getD j 0 < 53 := by decide +kernel
theorem piK_in {k : Int} (hk : 0 ≤ k ∧ k < 8) : 45 ≤ piK.getD k.toNat 0 ∧ piK.getD k.toNat 0 < 53 := piK_b ⟨k.toNat, by omega⟩
theorem hasN_k {k : Int} (hk : 0 ≤ k ∧ k < 8) : hasN k = true ↔ 49 ≤ piK.getD k.toNat 0 := by
  have := hasN_pi ⟨k.toNat, by omega⟩
  simp only at this
  rwa [show ((k.toNat : Nat) : Int) = k by omega] at this
section MTX
variable {kc : List va_E} {d : Nat} {M : fx_M} {Q : Option fx_V → fx_M → Prop} {Z : PZ} {u : Int}
theorem msc_loop {R : PR} {r : Nat} (hu : 0 ≤ u ∧ u < 10) (ho : pz_ok Z) (hR : Z.2.2.2.1[r]? = some R) : ∀ (t i : Nat) (M : fx_M), i + t = R.2.2.length → mz M u Z → m_ok M → Q none (m_app M ((R.2.2.drop i).flatMap (fun c => 32 :: dgs c))) → wp kc (d + 4) 338 50 [some (jR 133), some (jI (12 * u + r)), some (jI i)] [] M Q := by
  have hRok := ho.2.2.2.2.2.2.2.1 R (List.mem_of_getElem? hR)
  have hrl := (List.getElem?_eq_some_iff.mp hR).1
  have h7 := ho.2.2.2.2.2.2.1
  have h9 := pz_n ho
  have h4 := hRok.2.2.2.2.2.1
  intro t
  induction t with
  | zero =>
    intro i M hi hz hO K
    obtain ⟨a1, a2, a3, a4⟩ := hz.2.2.2.2.1 r R hR
    have e : R.2.2.drop i = [] := List.drop_eq_nil_of_le (by omega)
    rw [e] at K
    refine s338_50 ?_
    rw [a3]
    exact ⟨⟨by omega, by omega⟩, ⟨⟨by omega, by omega⟩, ⟨by omega, by omega⟩⟩, fun _ => K, fun h => by omega⟩
  | succ t ih =>
    intro i M hi hz hO K
    obtain ⟨a1, a2, a3, a4⟩ := hz.2.2.2.2.1 r R hR
    have hlt : i < R.2.2.length := by omega
    have hmem : R.2.2[i] ∈ R.2.2 := List.getElem_mem hlt
    have hb := hRok.2.2.2.2.2.2.1 _ hmem
    have hg : R.2.2[i]? = some R.2.2[i] := List.getElem?_eq_getElem hlt
    have hd : R.2.2.drop i = R.2.2[i] :: R.2.2.drop (i + 1) := List.drop_eq_getElem_cons hlt
    have e1 : ((i + 1 : Nat) : Int) = (i : Int) + 1 := by omega
    rw [hd, List.flatMap_cons] at K
    have av := a4 i _ hg
    refine s338_50 ?_
    rw [a3, av]
    refine ⟨⟨by omega, by omega⟩, ⟨⟨by omega, by omega⟩, ⟨by omega, by omega⟩⟩, fun h => by omega, fun _ => ⟨⟨by omega, by omega⟩, sp_sayMore hO (by omega) (by omega) (s338_74 ?_)⟩⟩
    have := ih (i + 1) (m_app M (32 :: dgs R.2.2[i])) (by omega) (mz_app hz) (m_ok_app hO) (by
      rw [m_app_app]
      exact K)
    rw [e1] at this
    exact this
/-- sayRule: a rule's text without the semicolon -/
theorem sp_sayRule {R : PR} {r : Nat} (hu : 0 ≤ u ∧ u < 10) (ho : pz_ok Z) (hR : Z.2.2.2.1[r]? = some R) (hz : mz M u Z) (hO : m_ok M) (K : Q none (m_app M ([114, 117, 108, 101, 32] ++ knm R.1 ++ (if hasN R.1 = true then 32 :: dgs R.2.1 else []) ++ R.2.2.flatMap (fun c => 32 :: dgs c)))) : wc kc (d + 4) 338 [jR 133, jI (12 * u + r)] M Q := by
  have hRok := ho.2.2.2.2.2.2.2.1 R (List.mem_of_getElem? hR)
  have hrl := (List.getElem?_eq_some_iff.mp hR).1
  have h7 := ho.2.2.2.2.2.2.1
  have hk : 0 ≤ R.1 ∧ R.1 < 8 := ⟨hRok.1, hRok.2.1⟩
  have hpi := piK_in hk
  have hN := hasN_k hk
  have hz1 : ∀ cs, mz (m_app M cs) u Z := fun cs => mz_app hz
  have k0 : ∀ cs, (m_app M cs) 150 (12 * u + r) = piK.getD R.1.toNat 0 := fun cs => ((hz1 cs).2.2.2.2.1 r R hR).1
  have k1 : ∀ cs, (m_app M cs) 151 (12 * u + r) = R.2.1 := fun cs => ((hz1 cs).2.2.2.2.1 r R hR).2.1
  have hb : 0 ≤ 12 * u + (r : Int) ∧ 12 * u + (r : Int) < 120 := by omega
  have er : wls (wrd 1) = [114, 117, 108, 101] := by decide +kernel
  refine s338 (sp_word (by omega) (by omega) (s338_5 (sp_sayWord (wrd_ok (by omega) (by omega)) hO (s338_8 (sp_sayByte (m_ok_app hO) ?_)))))
  show wp kc (d + 4) 338 14 [some (jR 133), some (jI (12 * u + r)), none] [] (m_app (m_app M _) [32]) Q
  rw [m_app_app, er]
  refine s338_14 ⟨hb, ?_⟩
  rw [k0]
  refine sp_word (by omega) (by omega) (s338_24 (sp_sayWord (wrd_ok (by omega) (by omega)) (m_ok_app hO) ?_))
  rw [m_app_app]
  refine s338_27 ?_
  rw [k0, k1]
  refine ⟨hb, ⟨by omega, by omega⟩, fun hx => ?_, fun hx => ⟨hb, sp_sayMore (m_ok_app hO) hRok.2.2.1 (by have := hRok.2.2.2.1; omega) (s338_48 ?_)⟩⟩
  · rw [if_neg (fun h => by have := hN.mp h; omega)] at K
    refine msc_loop hu ho hR R.2.2.length 0 _ (by omega) (hz1 _) (m_ok_app hO) ?_
    rw [m_app_app, List.drop_zero]
    simpa [knm] using K
  · rw [if_pos (hN.mpr hx)] at K
    rw [m_app_app]
    refine msc_loop hu ho hR R.2.2.length 0 _ (by omega) (hz1 _) (m_ok_app hO) ?_
    rw [m_app_app, List.drop_zero]
    simpa [knm] using K
theorem mst_rules (hu : 0 ≤ u ∧ u < 10) (ho : pz_ok Z) : ∀ (t r : Nat) (M : fx_M), r + t = Z.2.2.2.1.length → mz M u Z → m_ok M → (∀ M', M' = m_app M ((Z.2.2.2.1.drop r).flatMap tRule) → wp kc (d + 5) 340 74 [some (jR 133), some (jI u), some (jI 0)] [] M' Q) → wp kc (d + 5) 340 40 [some (jR 133), some (jI u), some (jI r)] [] M Q := by
  have h7 := ho.2.2.2.2.2.2.1
  intro t
  induction t with
  | zero =>
    intro r M hr hz hO K
    have e : Z.2.2.2.1.drop r = [] := List.drop_eq_nil_of_le (by omega)
    rw [e] at K
    refine s340_40 ?_
    rw [hz.2.2.2.1]
    exact ⟨hu, ⟨⟨by omega, by omega⟩, ⟨by omega, by omega⟩⟩, fun _ => K M rfl, fun h => by omega⟩
  | succ t ih =>
    intro r M hr hz hO K
    have hlt : r < Z.2.2.2.1.length := by omega
    have hg : Z.2.2.2.1[r]? = some Z.2.2.2.1[r] := List.getElem?_eq_getElem hlt
    have hd : Z.2.2.2.1.drop r = Z.2.2.2.1[r] :: Z.2.2.2.1.drop (r + 1) := List.drop_eq_getElem_cons hlt
    have e1 : ((r + 1 : Nat) : Int) = (r : Int) + 1 := by omega
    refine s340_40 ?_
    rw [hz.2.2.2.1]
    refine ⟨hu, ⟨⟨by omega, by omega⟩, ⟨by omega, by omega⟩⟩, fun h => by omega, fun _ => sp_sayByte hO ?_⟩
    show wp kc (d + 5) 340 56 [some (jR 133), some (jI u), some (jI r)] [] (m_app M [59]) Q
    refine s340_56 (sp_sayRule hu ho hg (mz_app hz) (m_ok_app (cs := [59]) hO) (s340_66 ?_))
    rw [m_app_app]
    have := ih (r + 1) (m_app M (tRule Z.2.2.2.1[r])) (by omega) (mz_app hz) (m_ok_app hO) (fun M' hM' => K M' (by
      rw [hM', m_app_app, hd, List.flatMap_cons]))
    rw [e1] at this
    exact this
theorem mst_gives (hu : 0 ≤ u ∧ u < 10) (ho : pz_ok Z) : ∀ (t c : Nat) (M : fx_M), (c : Int) + t = Z.1 * Z.2.1 → mz M u Z → m_ok M → Q none (m_app M ((List.range' c t).flatMap (tGive Z))) → wp kc (d + 5) 340 74 [some (jR 133), some (jI u), some (jI c)] [] M Q := by
  have h9 := pz_n ho
  intro t
  induction t with
  | zero =>
    intro c M hc hz hO K
    refine s340_74 ?_
    rw [hz.1, hz.2.1]
    exact ⟨hu, hu, ⟨⟨by omega, by omega⟩, ⟨by omega, by omega⟩⟩, fun _ => K, fun h => by omega⟩
  | succ t ih =>
    intro c M hc hz hO K
    have e1 : ((c + 1 : Nat) : Int) = (c : Int) + 1 := by omega
    have hgv := hz.2.2.2.2.2 c (by omega)
    have hrange : (List.range' c (t + 1)).flatMap (tGive Z) = tGive Z c ++ (List.range' (c + 1) t).flatMap (tGive Z) := by
      rw [List.range'_succ]
      simp
    rw [hrange] at K
    have hgb : -1 ≤ Z.2.2.2.2.getD c (-1) ∧ Z.2.2.2.2.getD c (-1) < 4 := by
      have h9l := ho.2.2.2.2.2.2.2.2.1
      have hlt : c < Z.2.2.2.2.length := by omega
      have hm : Z.2.2.2.2.getD c (-1) ∈ Z.2.2.2.2 := by
        rw [List.getD_eq_getElem?_getD, List.getElem?_eq_getElem hlt]
        exact List.getElem_mem hlt
      have := ho.2.2.2.2.2.2.2.2.2.1 _ hm
      have := ho.2.2.2.2.2.1
      omega
    have eg : wls (wrd 3) = [103, 105, 118, 101] := by decide +kernel
    refine s340_74 ?_
    rw [hz.1, hz.2.1, hgv]
    refine ⟨hu, hu, ⟨⟨by omega, by omega⟩, ⟨by omega, by omega⟩⟩, fun h => by omega, fun _ => ⟨⟨by omega, by omega⟩, ⟨by omega, by omega⟩, fun hpos => sp_sayByte hO ?_, fun hneg => ?_⟩⟩
    · have e0 : tGive Z c = [59, 103, 105, 118, 101, 32] ++ dgs c ++ 32 :: dgs (Z.2.2.2.2.getD c (-1)) := by
        unfold tGive
        rw [if_pos hpos]
      rw [e0] at K
      show wp kc (d + 5) 340 114 [some (jR 133), some (jI u), some (jI c)] [] (m_app M [59]) Q
      refine s340_114 (sp_word (by omega) (by omega) (s340_119 (sp_sayCount (wrd_ok (by omega) (by omega)) (m_ok_app (cs := [59]) hO) (by omega) (by omega) ?_)))
      rw [m_app_app, eg]
      have hz2 : mz (m_app M ([59] ++ ([103, 105, 118, 101] ++ 32 :: dgs c))) u Z := mz_app hz
      refine s340_123 ⟨⟨by omega, by omega⟩, ?_⟩
      rw [hz2.2.2.2.2.2 c (by omega)]
      refine sp_sayMore (m_ok_app hO) hpos (by omega) (s340_138 ?_)
      rw [m_app_app, ← e1]
      refine ih (c + 1) _ (by omega) (mz_app hz) (m_ok_app hO) ?_
      rw [m_app_app]
      simpa using K
    · have e0 : tGive Z c = [] := by
        unfold tGive
        rw [if_neg (by omega)]
      rw [e0] at K
      have := ih (c + 1) M (by omega) hz hO K
      rw [e1] at this
      exact this
/-- sayText: a puzzle's text -/
theorem sp_sayText (hu : 0 ≤ u ∧ u < 10) (ho : pz_ok Z) (hz : mz M u Z) (hO : m_ok M) (K : Q none (m_app M (tText Z))) : wc kc (d + 5) 340 [jR 133, jI u] M Q := by
  have h9 := pz_n ho
  obtain ⟨o1, o2, o3, o4, o5, o6, o7, o8, o9, o10, o11⟩ := ho
  have ho : pz_ok Z := ⟨o1, o2, o3, o4, o5, o6, o7, o8, o9, o10, o11⟩
  have hz1 : ∀ cs, mz (m_app M cs) u Z := fun cs => mz_app hz
  have en : wls (wrd 0) = [110, 101, 119] := by decide +kernel
  refine s340 (sp_word (by omega) (by omega) (s340_5 (sp_sayWord (wrd_ok (by omega) (by omega)) hO (s340_8 ⟨hu, ?_⟩))))
  rw [en, (hz1 _).1]
  refine sp_sayMore (m_ok_app hO) (by omega) (by omega) (s340_18 ⟨hu, ?_⟩)
  rw [m_app_app, (hz1 _).2.1]
  refine sp_sayMore (m_ok_app hO) (by omega) (by omega) (s340_28 ⟨hu, ?_⟩)
  rw [m_app_app, (hz1 _).2.2.1]
  refine sp_sayMore (m_ok_app hO) (by omega) (by omega) (s340_38 ?_)
  rw [m_app_app]
  refine mst_rules hu ho Z.2.2.2.1.length 0 _ (by omega) (hz1 _) (m_ok_app hO) (fun M' hM' => ?_)
  rw [hM', m_app_app]
  refine mst_gives hu ho (Z.1 * Z.2.1).toNat 0 _ (by omega) (hz1 _) (m_ok_app hO) ?_
  rw [m_app_app, ← List.range_eq_range', List.drop_zero]
  unfold tText at K
  simpa using K
end MTX
