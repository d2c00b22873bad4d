/-! The reference's table. -/
/-- whether q stands before p in the table -/
def cmP (C : List CI) (q p : Nat) : Int := if ahd C q p = true then 1 else if ahd C p q = true then 0 else if q < p then 1 else 0
def plP (C : List CI) (p : Nat) : Int := 0 + cmP C 0 p + cmP C 1 p + cmP C 2 p
section MTB
variable {kc : List va_E} {d : Nat} {Q : Option fx_V → fx_M → Prop} {C : List CI} {k : Nat}
theorem sp_pointsOf {M : fx_M} (hC : mct M C) (ho : ct_ok k C) {p : Nat} (hp : p < 3) (K : Q (some (jI (ptP C p))) M) : wc kc (d + 1) 356 [jR 133, jI p] M Q := by
  have h6 := ho.2.1
  have hk := ho.1
  have z : ∀ (u i : Nat) (v : Int), i + u = C.length → v = ((C.take i).map (ciP p)).sum → wp kc (d + 1) 356 4 [some (jR 133), some (jI p), some (jI v), some (jI i)] [] M Q := by
    intro u
    induction u with
    | zero =>
      intro i v hi e
      rw [List.take_of_length_le (by omega)] at e
      refine s356_4 ?_
      rw [hC.1, e]
      exact ⟨⟨⟨by omega, by omega⟩, ⟨by omega, by omega⟩⟩, fun _ => K, fun h => by omega⟩
    | succ u ih =>
      intro i v hi e
      have hil : i < C.length := by omega
      have ht := List.getElem?_eq_getElem hil
      obtain ⟨_, _, _, c4, c5⟩ := hC.2 i _ ht
      have hok := ho.2.2 _ (List.getElem_mem hil)
      obtain ⟨c5a, c5b, c5c⟩ := c5 p hp
      have h3 := hok.2.2.2.2 p hp
      have hpt := hok.2.2.1
      have hpt2 := hok.2.2.2.1
      have et : (C.take (i + 1)) = C.take i ++ [C[i]] := List.take_succ_eq_append_getElem hil
      have s1 : ((C.take (i + 1)).map (ciP p)).sum = v + ciP p C[i] := by rw [et, List.map_append, List.map_singleton, sum_app1, e]
      have nx := ih (i + 1) (v + ciP p C[i]) (by omega) s1.symm
      rw [show ((i + 1 : Nat) : Int) = (i : Int) + 1 by omega] at nx
      refine s356_4 ?_
      rw [hC.1, c5a, c4]
      by_cases hr : 0 ≤ C[i].2.2.2.2 p
      · rw [(c5b hr).1, if_neg (by decide)]
        have ep : (if C[i].2.2.2.1 p < C[i].2.2.1 then v + (C[i].2.2.1 - C[i].2.2.2.1 p) else v) = v + ciP p C[i] := by
          unfold ciP
          rw [if_pos hr]
          by_cases h1 : C[i].2.2.2.1 p < C[i].2.2.1
          · rw [if_pos h1, if_neg (by omega)]
          · rw [if_neg h1]
            split <;> omega
        rw [ep]
        exact ⟨⟨⟨by omega, by omega⟩, ⟨by omega, by omega⟩⟩, fun h => by omega, fun _ => ⟨⟨by omega, by omega⟩, ⟨by omega, by omega⟩, fun _ => ⟨by omega, by omega⟩, fun _ => ⟨by omega, by omega⟩, fun _ => ⟨by omega, by omega⟩, fun _ => ⟨by omega, by omega⟩, fun _ _ => ⟨by omega, by omega⟩, fun _ _ => ⟨by omega, by omega⟩, nx⟩⟩
      · rw [c5c (by omega), if_pos rfl]
        have ep : v + ciP p C[i] = v := by
          unfold ciP
          rw [if_neg hr]
          omega
        rw [ep] at nx
        exact ⟨⟨⟨by omega, by omega⟩, ⟨by omega, by omega⟩⟩, fun h => by omega, fun _ => ⟨⟨by omega, by omega⟩, ⟨by omega, by omega⟩, fun h => absurd rfl h, fun h => absurd rfl h, fun h => absurd rfl h, fun h => absurd rfl h, fun h => absurd rfl h, fun h => absurd rfl h, nx⟩⟩
  exact s356 (z C.length 0 0 (by omega) rfl)
theorem sp_timeOf {M : fx_M} (hC : mct M C) (ho : ct_ok k C) {p : Nat} (hp : p < 3) (K : Q (some (jI (tmP C p))) M) : wc kc (d + 1) 357 [jR 133, jI p] M Q := by
  have h6 := ho.2.1
  have hk := ho.1
  have z : ∀ (u i : Nat) (v : Int), i + u = C.length → v = ((C.take i).map (ciT p)).sum → wp kc (d + 1) 357 4 [some (jR 133), some (jI p), some (jI v), some (jI i)] [] M Q := by
    intro u
    induction u with
    | zero =>
      intro i v hi e
      rw [List.take_of_length_le (by omega)] at e
      refine s357_4 ?_
      rw [hC.1, e]
      exact ⟨⟨⟨by omega, by omega⟩, ⟨by omega, by omega⟩⟩, fun _ => K, fun h => by omega⟩
    | succ u ih =>
      intro i v hi e
      have hil : i < C.length := by omega
      have ht := List.getElem?_eq_getElem hil
      obtain ⟨_, _, _, c4, c5⟩ := hC.2 i _ ht
      obtain ⟨c5a, c5b, c5c⟩ := c5 p hp
      have et : (C.take (i + 1)) = C.take i ++ [C[i]] := List.take_succ_eq_append_getElem hil
      have s1 : ((C.take (i + 1)).map (ciT p)).sum = v + ciT p C[i] := by rw [et, List.map_append, List.map_singleton, sum_app1, e]
      have nx := ih (i + 1) (v + ciT p C[i]) (by omega) s1.symm
      rw [show ((i + 1 : Nat) : Int) = (i : Int) + 1 by omega] at nx
      refine s357_4 ?_
      rw [hC.1, c5a]
      by_cases hr : 0 ≤ C[i].2.2.2.2 p
      · rw [(c5b hr).1, (c5b hr).2, if_neg (by decide)]
        have ep : v + ciT p C[i] = v + (C[i].2.2.2.2 p + 20 * C[i].2.2.2.1 p) := by
          unfold ciT
          rw [if_pos hr]
        rw [ep] at nx
        exact ⟨⟨⟨by omega, by omega⟩, ⟨by omega, by omega⟩⟩, fun h => by omega, fun _ => ⟨⟨by omega, by omega⟩, ⟨by omega, by omega⟩, fun _ => ⟨by omega, by omega⟩, fun _ => ⟨by omega, by omega⟩, nx⟩⟩
      · rw [c5c (by omega), if_pos rfl]
        have ep : v + ciT p C[i] = v := by
          unfold ciT
          rw [if_neg hr]
          omega
        rw [ep] at nx
        exact ⟨⟨⟨by omega, by omega⟩, ⟨by omega, by omega⟩⟩, fun h => by omega, fun _ => ⟨⟨by omega, by omega⟩, ⟨by omega, by omega⟩, fun h => absurd rfl h, fun h => absurd rfl h, nx⟩⟩
  exact s357 (z C.length 0 0 (by omega) rfl)
theorem pl_one {M : fx_M} (hC : mct M C) (ho : ct_ok k C) {p q : Nat} (hp : p < 3) (hq : q < 3) {v : Int} (K : wp kc (d + 2) 355 4 [some (jR 133), some (jI p), some (jI (v + cmP C q p)), some (jI ((q : Int) + 1)), none] [] M Q) : wp kc (d + 2) 355 4 [some (jR 133), some (jI p), some (jI v), some (jI q), none] [] M Q := by
  have b1 := sum_all ho hp
  have b2 := sum_all ho hq
  refine s355_4 ⟨⟨by omega, by omega⟩, fun h => by omega, fun _ => sp_pointsOf (d := d) hC ho hq (s355_14 (sp_pointsOf (d := d) hC ho hp (s355_19 ?_)))⟩
  refine ⟨⟨by omega, by omega⟩, fun hne => ?_, fun he => sp_timeOf (d := d) hC ho hp (s355_32 (sp_timeOf (d := d) hC ho hq (s355_37 ?_)))⟩
  · have e : (if 0 < ptP C q - ptP C p then (1 : Int) else if ptP C q - ptP C p = 0 then (if (q : Int) < (p : Int) then 1 else 0) else 0) = cmP C q p := by
      unfold cmP ahd
      by_cases h1 : ptP C p < ptP C q
      · rw [if_pos (by omega)]
        simp [h1]
      · have h2 : ptP C q < ptP C p := by omega
        rw [if_neg (by omega), if_neg hne]
        have h3 : ¬ ptP C q = ptP C p := by omega
        simp [h1, h2, h3]
    rw [e]
    exact ⟨⟨by omega, by omega⟩, fun _ => ⟨by omega, by omega⟩, fun _ h => by omega, fun _ h => by omega, K⟩
  · have hpe : ptP C q = ptP C p := by omega
    have e : (if 0 < tmP C p - tmP C q then (1 : Int) else if tmP C p - tmP C q = 0 then (if (q : Int) < (p : Int) then 1 else 0) else 0) = cmP C q p := by
      unfold cmP ahd
      rw [hpe]
      by_cases h1 : tmP C q < tmP C p
      · rw [if_pos (by omega)]
        simp [h1]
      · by_cases h2 : tmP C p < tmP C q
        · rw [if_neg (by omega), if_neg (by omega)]
          simp [h1, h2]
        · rw [if_neg (by omega), if_pos (by omega)]
          simp [h1, h2]
    rw [e]
    exact ⟨⟨by omega, by omega⟩, fun _ => ⟨by omega, by omega⟩, fun _ _ => ⟨by omega, by omega⟩, fun _ _ => ⟨by omega, by omega⟩, K⟩
theorem sp_placeOf {M : fx_M} (hC : mct M C) (ho : ct_ok k C) {p : Nat} (hp : p < 3) (K : Q (some (jI (plP C p))) M) : wc kc (d + 2) 355 [jR 133, jI p] M Q := by
  refine s355 (pl_one (q := 0) hC ho hp (by omega) (pl_one (q := 1) hC ho hp (by omega) (pl_one (q := 2) hC ho hp (by omega) ?_)))
  exact s355_4 ⟨⟨by omega, by omega⟩, fun _ => K, fun h => by omega⟩
theorem mct_fr {M N : fx_M} (h : mct M C) (ho : ct_ok k C) (f89 : N 133 89 = M 133 89) (f : ∀ b j, (146 ≤ b ∧ b ≤ 154) ∨ (182 ≤ b ∧ b ≤ 187) → N b j = M b j) : mct N C := by
  refine ⟨by rw [f89]; exact h.1, fun i t ht => ?_⟩
  obtain ⟨c1, c2, c3, c4, c5⟩ := h.2 i t ht
  exact ⟨by rw [f _ _ (by omega)]; exact c1, fun j c hc => by rw [f _ _ (by omega)]; exact c2 j c hc, mz_frM c3 (fun b j h1 h2 => f b j (by omega)), by rw [f _ _ (by omega)]; exact c4, fun p hp => by rw [f _ _ (by omega), f _ _ (by omega), f _ _ (by omega)]; exact c5 p hp⟩
theorem mct_app {M : fx_M} {cs : List Int} (h : mct M C) (ho : ct_ok k C) : mct (m_app M cs) C := mct_fr h ho (m_app_ne (by omega) (by decide)) (fun b j hb => m_app_ne (by omega) (by omega))
/-- what is told of a place -/
def tPl (C : List CI) (pl : Int) : Nat → List Int
  | 0 => []
  | n + 1 => tPl C pl n ++ (if plP C n = pl then tPer C n else [])
theorem pl_tell {pl : Int} (hpl : 0 ≤ pl ∧ pl < 3) : ∀ (u p : Nat) (M : fx_M), p + u = 3 → mct M C → ct_ok k C → m_ok M → (∀ cs, tPl C pl p ++ cs = tPl C pl 3 → wp kc (d + 4) 354 2 [some (jR 133), some (jI (pl + 1)), none] [] (m_app M cs) Q) → wp kc (d + 4) 354 9 [some (jR 133), some (jI pl), some (jI p)] [] M Q := by
  intro u
  induction u with
  | zero =>
    intro p M hp hC ho hO K
    have e : p = 3 := by omega
    subst e
    exact s354_9 ⟨⟨by omega, by omega⟩, fun _ => K [] (by rw [List.append_nil]), fun h => by omega⟩
  | succ u ih =>
    intro p M hp hC ho hO K
    have hp3 : p < 3 := by omega
    have bs := sum_all ho hp3
    have ep : ((p + 1 : Nat) : Int) = (p : Int) + 1 := by omega
    have hcb : ∀ q, 0 ≤ cmP C q p ∧ cmP C q p ≤ 1 := fun q => by
      unfold cmP
      repeat' split
      all_goals omega
    have hb0 := hcb 0
    have hb1 := hcb 1
    have hb2 := hcb 2
    have e2 : plP C p = 0 + cmP C 0 p + cmP C 1 p + cmP C 2 p := rfl
    refine s354_9 ⟨⟨by omega, by omega⟩, fun h => by omega, fun _ => sp_placeOf (d := d + 1) hC ho hp3 (s354_19 ⟨⟨⟨by omega, by omega⟩, ⟨by omega, by omega⟩⟩, fun he => ?_, fun hne => ?_⟩)⟩
    · refine sp_sayNumber (d := d + 1) hO (by omega) (by omega) (s354_31 (sp_pointsOf (d := d + 2) (mct_app hC ho) ho hp3 (s354_37 (sp_sayMore (d := d) (m_ok_app hO) (by omega) (by omega) (s354_40 (sp_timeOf (d := d + 2) (mct_app (mct_app hC ho) ho) ho hp3 (s354_46 (sp_sayMore (d := d) (m_ok_app (m_ok_app hO)) (by omega) (by omega) (s354_49 (sp_sayByte (d := d + 2) (m_ok_app (m_ok_app (m_ok_app hO))) (s354_55 ?_)))))))))))
      have e : m_put (m_app (m_app (m_app M (dgs (p : Int))) (32 :: dgs (ptP C p))) (32 :: dgs (tmP C p))) 59 = m_app M (tPer C p) := by
        unfold tPer
        rw [← m_app_app, ← m_app_app, ← m_app_app]
        rfl
      rw [e]
      have nx := ih (p + 1) (m_app M (tPer C p)) (by omega) (mct_app hC ho) ho (m_ok_app hO) (fun cs h => by
        rw [m_app_app]
        refine K _ ?_
        rw [tPl, if_pos he, List.append_assoc] at h
        exact h)
      rw [ep] at nx
      exact nx
    · have nx := ih (p + 1) M (by omega) hC ho hO (fun cs h => K cs (by
        rw [tPl, if_neg hne, List.append_nil] at h
        exact h))
      rw [ep] at nx
      exact nx
theorem tab_eq : tPl C 0 3 ++ tPl C (0 + 1) 3 ++ tPl C (0 + 1 + 1) 3 = tTab C := by
  have asy : ∀ q p, ahd C q p = true → ahd C p q = false := fun q p h => by
    unfold ahd at h ⊢
    simp only [Bool.or_eq_true, Bool.and_eq_true, decide_eq_true_eq] at h
    simp only [Bool.or_eq_false_iff, Bool.and_eq_false_iff, decide_eq_false_iff_not]
    omega
  have slf : ∀ p, ahd C p p = false := fun p => by
    unfold ahd
    simp
  have t1 : ¬ (ahd C 1 0 = true ∧ ahd C 2 0 = false ∧ ahd C 2 1 = true) := by
    unfold ahd
    simp only [Bool.or_eq_true, Bool.and_eq_true, decide_eq_true_eq, Bool.or_eq_false_iff, Bool.and_eq_false_iff, decide_eq_false_iff_not]
    omega
  have t2 : ¬ (ahd C 1 0 = false ∧ ahd C 2 0 = true ∧ ahd C 2 1 = false) := by
    unfold ahd
    simp only [Bool.or_eq_true, Bool.and_eq_true, decide_eq_true_eq, Bool.or_eq_false_iff, Bool.and_eq_false_iff, decide_eq_false_iff_not]
    omega
  have c10 : cmP C 1 0 = if ahd C 1 0 = true then 1 else 0 := by
    unfold cmP
    simp
  have c20 : cmP C 2 0 = if ahd C 2 0 = true then 1 else 0 := by
    unfold cmP
    simp
  have c21 : cmP C 2 1 = if ahd C 2 1 = true then 1 else 0 := by
    unfold cmP
    simp
  have low : ∀ q p, q < p → cmP C q p = if ahd C p q = true then 0 else 1 := fun q p h => by
    unfold cmP
    by_cases h1 : ahd C q p = true
    · rw [if_pos h1, asy q p h1]
      simp
    · rw [if_neg h1, if_pos h]
  have c00 : ∀ p, cmP C p p = 0 := fun p => by
    unfold cmP
    rw [slf]
    simp
  have p0 : plP C 0 = 0 + 0 + (if ahd C 1 0 = true then 1 else 0) + (if ahd C 2 0 = true then 1 else 0) := by
    unfold plP
    rw [c00, c10, c20]
  have p1 : plP C 1 = 0 + (if ahd C 1 0 = true then 0 else 1) + 0 + (if ahd C 2 1 = true then 1 else 0) := by
    unfold plP
    rw [low 0 1 (by omega), c00, c21]
  have p2 : plP C 2 = 0 + (if ahd C 2 0 = true then 0 else 1) + (if ahd C 2 1 = true then 0 else 1) + 0 := by
    unfold plP
    rw [low 0 2 (by omega), low 1 2 (by omega), c00]
  unfold tTab
  simp only [tPl]
  rw [p0, p1, p2]
  cases ha : ahd C 1 0 <;> cases hb : ahd C 2 0 <;> cases hc : ahd C 2 1
  all_goals rw [ha, hb, hc] at t1 t2
  all_goals first | (exact absurd ⟨rfl, rfl, rfl⟩ t1) | (exact absurd ⟨rfl, rfl, rfl⟩ t2) | (simp [ordC, ha, hb, hc]; done) | (unfold ordC; rw [ha, hb, hc]; simp; done)
theorem sp_sayTable {M : fx_M} (hC : mct M C) (ho : ct_ok k C) (hO : m_ok M) (K : Q none (m_app M (tTab C))) : wc kc (d + 4) 354 [jR 133] M Q := by
  rw [← tab_eq] at K
  refine s354 (s354_2 ⟨⟨by omega, by omega⟩, fun h => by omega, fun _ => pl_tell ⟨by omega, by omega⟩ 3 0 M (by omega) hC ho hO (fun cs0 e0 => s354_2 ⟨⟨by omega, by omega⟩, fun h => by omega, fun _ => pl_tell ⟨by omega, by omega⟩ 3 0 _ (by omega) (mct_app hC ho) ho (m_ok_app hO) (fun cs1 e1 => s354_2 ⟨⟨by omega, by omega⟩, fun h => by omega, fun _ => pl_tell ⟨by omega, by omega⟩ 3 0 _ (by omega) (mct_app (mct_app hC ho) ho) ho (m_ok_app (m_ok_app hO)) (fun cs2 e2 => s354_2 ⟨⟨by omega, by omega⟩, fun _ => ?_, fun h => by omega⟩)⟩)⟩)⟩)
  rw [tPl, List.nil_append] at e0 e1 e2
  rw [m_app_app, m_app_app, e0, e1, e2, ← List.append_assoc]
  exact K
end MTB
