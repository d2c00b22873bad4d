/-! FORMS, the reference: findForm, sayForm. -/
section MFF
variable {kc : List va_E} {d : Nat} {M : fx_M} {Q : Option fx_V → fx_M → Prop} {Z : PZ} {u : Int}
def mfS (Z : PZ) (k : Nat) (T : List Int) : Prop := T.length ≤ 354 ∧ (∀ x ∈ T, 0 ≤ x ∧ x ≤ 255) ∧ (k = 0 → T = []) ∧ (k ≠ 0 → ∃ Y, T = tText Y ∧ mnU Z k Y)
theorem ffm_loop {n : Nat} {v2 : Int} (hu : u = 0 ∨ u = 1) (ho : pz_ok Z) (hn : pnZ Z) (hN : (n : Int) = mps Z.1 Z.2.1 * (rgs Z : Nat)) (h2 : 0 ≤ v2 ∧ v2 + 720 ≤ 6000) : ∀ (t k : Nat) (M : fx_M) (T : List Int), k + t = n → mz M u Z → M 133 5 = v2 → mfo M T → mfS Z k T → (∀ M' Y, isMin Z Y → mfo M' (tText Y) → ffr M M' → Q none M') → wp kc (d + 7) 334 12 [some (jR 133), some (jI u), some (jI v2), some (jI k), none, none] [] M Q := by
  have hb := mps_b (w := Z.1) (h := Z.2.1)
  have hr := rgs_b ho
  have hu10 : 0 ≤ u ∧ u < 10 := by omega
  have hnb : (n : Int) ≤ 192 := by
    rw [hN]
    calc mps Z.1 Z.2.1 * ((rgs Z : Nat) : Int) ≤ 8 * ((rgs Z : Nat) : Int) := Int.mul_le_mul_of_nonneg_right hb.2 (by omega)
      _ ≤ 192 := by omega
  have hn1 : (1 : Int) ≤ n := by
    rw [hN]
    calc (1 : Int) ≤ 4 * ((rgs Z : Nat) : Int) := by omega
      _ ≤ mps Z.1 Z.2.1 * ((rgs Z : Nat) : Int) := Int.mul_le_mul_of_nonneg_right hb.1 (by omega)
  intro t
  induction t with
  | zero =>
    intro k M T hk hz h5 hf hS K
    have ek : k = n := by omega
    refine s334_12 (sp_mmaps (d := d + 5) hu10 hz ho (s334_18 (sp_mrenamings (d := d + 5) hu10 hz ho (s334_23 ?_))))
    rw [← hN]
    refine ⟨⟨⟨by omega, by omega⟩, ⟨by omega, by omega⟩⟩, fun _ => ?_, fun h => by omega⟩
    obtain ⟨s1, s2, s3, s4⟩ := hS
    obtain ⟨Y, e, hY⟩ := s4 (by omega)
    rw [ek] at hY
    exact K M Y (mnU_min hN hY) (e ▸ hf) ffr_rf
  | succ t ih =>
    intro k M T hk hz h5 hf hS K
    obtain ⟨s1, s2, s3, s4⟩ := hS
    refine s334_12 (sp_mmaps (d := d + 5) hu10 hz ho (s334_18 (sp_mrenamings (d := d + 5) hu10 hz ho (s334_23 ?_))))
    rw [← hN]
    refine ⟨⟨⟨by omega, by omega⟩, ⟨by omega, by omega⟩⟩, fun h => by omega, fun _ => sp_mmaps (d := d + 5) hu10 hz ho (s334_35 ⟨⟨⟨by omega, by omega⟩, ⟨by omega, by omega⟩⟩, sp_mmaps (d := d + 5) hu10 hz ho (s334_42 ⟨⟨⟨by omega, by omega⟩, ⟨by omega, by omega⟩⟩, ?_⟩)⟩)⟩
    have hm : 0 ≤ (k : Int) % mps Z.1 Z.2.1 ∧ (k : Int) % mps Z.1 Z.2.1 < mps Z.1 Z.2.1 := ⟨Int.emod_nonneg _ (by omega), Int.emod_lt_of_pos _ (by omega)⟩
    have hd0 : 0 ≤ (k : Int) / mps Z.1 Z.2.1 := Int.ediv_nonneg (by omega) (by omega)
    have hd1 : (k : Int) / mps Z.1 Z.2.1 < (rgs Z : Nat) := Int.ediv_lt_of_lt_mul (by omega) (by
      rw [Int.mul_comm, ← hN]
      omega)
    obtain ⟨i, hi⟩ : ∃ i : Nat, (k : Int) / mps Z.1 Z.2.1 = (i : Int) := ⟨((k : Int) / mps Z.1 Z.2.1).toNat, by omega⟩
    obtain ⟨m, hme⟩ : ∃ m : Int, (k : Int) % mps Z.1 Z.2.1 = m := ⟨_, rfl⟩
    rw [hme] at hm
    rw [hi] at hd1 hd0
    rw [hi, hme]
    have hif : i < fcN Z.2.2.1.toNat := by omega
    have hX := nvZ_ok ho hm hif
    have tb := tText_b hX
    refine sp_mvary (d := d + 3) hu hz ho hm hif (fun N n1 n2 => s334_47 ?_)
    have fN : ffr M N := fun b j b1 b2 b3 b4 b5 b6 => n2 b j b4 b2
    have n5 := ffr_5 fN
    refine sp_order (d := d) n1 (vrZ_ok ho hm hif) (fun R hR => ?_) (by omega) (by omega) (fun O o1 o2 => s334_52 ?_)
    · obtain ⟨R0, R1, R2⟩ := List.mem_map.mp hR
      rw [← R2]
      exact nRl_v ho hn hm R1
    have eX : ((vrZ Z m i).1, (vrZ Z m i).2.1, (vrZ Z m i).2.2.1, srtR ((vrZ Z m i).2.2.2.1.map nR0), (vrZ Z m i).2.2.2.2) = nvZ Z m i := by
      unfold nvZ nrL vrZ
      dsimp only
      rw [List.map_map]
      rfl
    rw [eX] at o1
    have fO : ffr M O := ffr_tr fN (fun b j b1 b2 b3 b4 b5 b6 => o2 b j b1 b2 b3)
    have o5 := ffr_5 fO
    have hfO : mfo O T := by
      refine ⟨?_, fun j hj => ?_⟩
      · rw [o2 _ _ (by omega) (by unfold ucell; omega) (by unfold ucell; omega), n2 _ _ (by omega) (by unfold ucell; omega)]
        exact hf.1
      · rw [o2 _ _ (by omega) (by unfold ucell; omega) (by unfold ucell; omega), n2 _ _ (by omega) (by unfold ucell; omega)]
        exact hf.2 j hj
    have hOO : m_ok O := ⟨by omega, by omega⟩
    have hXz : mz (m_app O T) 3 (nvZ Z m i) := mz_app o1
    refine mf_say (d := d + 1) (by omega) hfO hOO T.length 0 (by omega) (s334_55 ?_)
    have l5 : (m_app O T) 133 5 = v2 + T.length := by rw [m_app_len (by omega), o5, h5]
    have l74 : (m_app O T) 133 74 = T.length := by rw [m_app_ne (by omega) (by omega)]; exact hfO.1
    rw [l5, l74]
    refine ⟨⟨⟨by omega, by omega⟩, ⟨by omega, by omega⟩⟩, fun _ => sp_sayText (d := d + 1) (by omega) hX hXz (m_ok_app hOO) (s334_92 ?_), fun h => by omega⟩
    have hL : (T ++ tText (nvZ Z m i)).length = T.length + (tText (nvZ Z m i)).length := List.length_append
    rw [m_app_app]
    have p5 : (m_app O (T ++ tText (nvZ Z m i))) 133 5 = v2 + T.length + (tText (nvZ Z m i)).length := by rw [m_app_len (by omega), o5, h5]; omega
    have fP : ∀ b j, ¬ (b = 136 ∧ M 133 5 ≤ j) → ¬ ucell 3 b j → ¬ ucell 2 b j → b ≠ 169 → b ≠ 170 → ¬ (b = 133 ∧ j = 74) → ¬ (b = 133 ∧ j = 5) → (m_app O (T ++ tText (nvZ Z m i))) b j = M b j := fun b j b1 b2 b3 b4 b5 b6 b7 => by
      rw [← fO b j b1 b2 b3 b4 b5 b6]
      by_cases e : b = 136
      · rw [e, m_app_lo (by omega)]
      · exact m_app_ne b7 e
    -- the end of a round
    have fin : ∀ (N : fx_M) (T' : List Int), mfo N T' → mfS Z (k + 1) T' → N 133 5 = v2 → ffr M N → wp kc (d + 7) 334 12 [some (jR 133), some (jI u), some (jI v2), some (jI ((k : Int) + 1)), none, none] [] N Q := fun N T' t1 t2 t3 t4 => by
      have := ih (k + 1) N T' (by omega) (ffr_mz t4 hz ho hu) t3 t1 t2 (fun M' Y y1 y2 y3 => K M' Y y1 y2 (ffr_tr t4 y3))
      rw [show ((k + 1 : Nat) : Int) = (k : Int) + 1 by omega] at this
      exact this
    have take : (T ≠ [] → ltW (tText (nvZ Z m i)) T = true) → wp kc (d + 7) 334 120 [some (jR 133), some (jI u), some (jI v2), some (jI k), some (jI (v2 + T.length)), some (jI 0)] [] (fx_up (m_app O (T ++ tText (nvZ Z m i))) 133 74 ((m_app O (T ++ tText (nvZ Z m i))) 133 5 - (v2 + T.length))) Q := fun hlt => by
      rw [p5, show v2 + (T.length : Int) + (tText (nvZ Z m i)).length - (v2 + T.length) = (tText (nvZ Z m i)).length by omega]
      refine mf_copy (d := d + 1) (W := tText (nvZ Z m i)) (by omega) (by omega) (tText (nvZ Z m i)).length 0 _ (by omega) (fun j hj => ?_) (fx_up_self ..) (fun j hj => by omega) (fun M' m1 m2 => ?_)
      · rw [fx_up_na (by omega), show v2 + (T.length : Int) + (j : Int) = O 133 5 + ((T.length + j : Nat) : Int) by omega, m_app_get (by omega) (by omega), List.getD_eq_getElem?_getD, List.getElem?_append_right (by omega), List.getD_eq_getElem?_getD, Nat.add_sub_cancel_left]
      · refine fin _ (tText (nvZ Z m i)) ?_ ⟨tb.1, tb.2, fun h => by omega, fun _ => ⟨nvZ Z m i, rfl, ⟨m, i, hm.1, hm.2, by omega, rfl⟩, fun k' hk' => ?_⟩⟩ (fx_up_self ..) (fun b j b1 b2 b3 b4 b5 b6 => ?_)
        · exact ⟨by rw [fx_up_nk (by omega)]; exact m1.1, fun j hj => by rw [fx_up_na (by omega)]; exact m1.2 j hj⟩
        · by_cases e : k' = k
          · rw [e, hi, hme]
            exact ltW_self
          · have hk0 : k ≠ 0 := by omega
            obtain ⟨Y, eY, hY⟩ := s4 hk0
            have hTne : T ≠ [] := fun e0 => by
              have y1 := eY ▸ e0
              rw [tText_e] at y1
              cases y1
            refine ltW_th (hlt hTne) ?_
            rw [eY]
            exact hY.2 k' (by omega)
        · by_cases e : b = 133 ∧ j = 5
          · rw [e.1, e.2, fx_up_self, h5]
          · rw [fx_up_ne e, m2 b j b5, fx_up_ne b6]
            exact fP b j b1 b2 b3 b4 b5 b6 e
    refine ⟨⟨by omega, by omega⟩, fun hk0 => ?_, fun hk0 => ?_⟩
    · exact take (fun h => absurd (s3 (by omega)) h)
    · obtain ⟨Y, eY, hY⟩ := s4 (by omega)
      obtain ⟨⟨m', i', m0', m1', i1', e'⟩, hY2⟩ := hY
      have l1 := nv_len ho hn hm hif
      have l2 := nv_len ho hn ⟨m0', m1'⟩ (k := i') (by omega)
      have lT : T.length = (tText (nvZ Z m i)).length := by rw [eY, e', l1, l2]
      have cp := cmpT_pos lT
      refine sp_compareSaid (d := d + 5) (by omega) (by omega) s2 tb.2 (by omega) (by omega) (s334_103 ?_)
      have cb : fx_in32 (cmpT T (tText (nvZ Z m i))) := by
        have gb : ∀ {A B : List Int}, (∀ c ∈ A, 0 ≤ c ∧ c ≤ 255) → (∀ c ∈ B, 0 ≤ c ∧ c ≤ 255) → A.length ≤ 6000 → B.length ≤ 6000 → -6000 ≤ cmpT A B ∧ cmpT A B ≤ 6000 := by
          intro A
          induction A with
          | nil =>
            intro B _ _ _ hB
            rw [cmpT]
            omega
          | cons x A ih =>
            intro B hA hB lA lB
            cases B with
            | nil =>
              rw [cmpT]
              omega
            | cons y B =>
              rw [cmpT]
              rw [List.length_cons] at lA lB
              by_cases e : x = y
              · rw [if_pos e]
                exact ih (fun c hc => hA c (List.mem_cons_of_mem _ hc)) (fun c hc => hB c (List.mem_cons_of_mem _ hc)) (by omega) (by omega)
              · rw [if_neg e]
                have := hA x (List.mem_cons_self ..)
                have := hB y (List.mem_cons_self ..)
                omega
        have := gb s2 tb.2 (by omega) (by omega)
        exact ⟨by omega, by omega⟩
      refine ⟨cb, fun hle => ?_, fun hgt => take (fun _ => cp.mp hgt)⟩
      refine fin _ T ?_ ⟨s1, s2, fun h => by omega, fun _ => ⟨Y, eY, ⟨m', i', m0', m1', i1', e'⟩, fun k' hk' => ?_⟩⟩ (fx_up_self ..) (fun b j b1 b2 b3 b4 b5 b6 => ?_)
      · refine ⟨?_, fun j hj => ?_⟩
        · rw [fx_up_nk (by omega), m_app_ne (by omega) (by omega)]
          exact hfO.1
        · rw [fx_up_na (by omega), m_app_ne (by omega) (by omega)]
          exact hfO.2 j hj
      · by_cases e : k' = k
        · rw [e, hi, hme, ← eY]
          show ltW (tText (nvZ Z m i)) T = false
          cases h : ltW (tText (nvZ Z m i)) T with
          | false => rfl
          | true =>
            have := cp.mpr h
            omega
        · exact hY2 k' (by omega)
      · by_cases e : b = 133 ∧ j = 5
        · rw [e.1, e.2, fx_up_self, h5]
        · rw [fx_up_ne e]
          exact fP b j b1 b2 b3 b4 b5 b6 e
/-- findForm: the least text of all variants is kept -/
theorem sp_findForm (hu : u = 0 ∨ u = 1) (hz : mz M u Z) (ho : pz_ok Z) (hn : pnZ Z) (h0 : 0 ≤ M 133 5) (h6 : M 133 5 + 720 ≤ 6000) (K : ∀ M' Y, isMin Z Y → mfo M' (tText Y) → ffr M M' → Q none M') : wc kc (d + 7) 334 [jR 133, jI u] M Q := by
  have hb := mps_b (w := Z.1) (h := Z.2.1)
  have hp : 0 ≤ mps Z.1 Z.2.1 * ((rgs Z : Nat) : Int) := Int.mul_nonneg (by omega) (by omega)
  have f0 : ffr M (fx_up M 133 74 0) := fun b j b1 b2 b3 b4 b5 b6 => fx_up_ne b6
  have := ffm_loop (kc := kc) (d := d) (Q := Q) (n := (mps Z.1 Z.2.1 * ((rgs Z : Nat) : Int)).toNat) (v2 := M 133 5) hu ho hn (by omega) ⟨h0, h6⟩ (mps Z.1 Z.2.1 * ((rgs Z : Nat) : Int)).toNat 0 (fx_up M 133 74 0) [] (by omega) (ffr_mz f0 hz ho hu) (fx_up_nk (by omega)) ⟨fx_up_self .., fun i hi => by cases hi⟩ ⟨by simp, fun x hx => (by cases hx), fun _ => rfl, fun h => absurd rfl h⟩ (fun M' Y y1 y2 y3 => K M' Y y1 y2 (ffr_tr f0 y3))
  exact s334 this
/-- sayForm -/
theorem sp_sayForm (hz : mz M 0 Z) (ho : pz_ok Z) (hn : pnZ Z) (h0 : 0 ≤ M 133 5) (h6 : M 133 5 + 720 ≤ 6000) (K : ∀ M' Y, isMin Z Y → ffr M M' → Q none (m_app M' (tText Y))) : wc kc (d + 8) 412 [jR 133] M Q := by
  refine s412 (sp_findForm (d := d) (Or.inl rfl) hz ho hn h0 h6 (fun M' Y y1 y2 y3 => s412_5 ?_))
  have m5 := ffr_5 y3
  have hO : m_ok M' := ⟨by omega, by omega⟩
  have tb := tText_b (isMin_ok ho hn y1).1
  have z : ∀ (t i : Nat), i + t = (tText Y).length → wp kc (d + 8) 412 7 [some (jR 133), some (jI i)] [] (m_app M' ((tText Y).take i)) Q := by
    intro t
    induction t with
    | zero =>
      intro i hi
      have e74 : (m_app M' ((tText Y).take i)) 133 74 = (tText Y).length := by rw [m_app_ne (by omega) (by omega)]; exact y2.1
      refine s412_7 ?_
      rw [e74]
      refine ⟨⟨⟨by omega, by omega⟩, ⟨by omega, by omega⟩⟩, fun _ => ?_, fun h => by omega⟩
      rw [List.take_of_length_le (by omega)]
      exact K M' Y y1 y3
    | succ t ih =>
      intro i hi
      have hlt : i < (tText Y).length := by omega
      have e74 : (m_app M' ((tText Y).take i)) 133 74 = (tText Y).length := by rw [m_app_ne (by omega) (by omega)]; exact y2.1
      have e170 : (m_app M' ((tText Y).take i)) 170 i = (tText Y).getD i 0 := by rw [m_app_ne (by omega) (by omega)]; exact y2.2 i hlt
      refine s412_7 ?_
      rw [e74, e170]
      refine ⟨⟨⟨by omega, by omega⟩, ⟨by omega, by omega⟩⟩, fun h => by omega, fun _ => ⟨⟨by omega, by omega⟩, sp_sayByte (d := d + 6) (m_ok_app hO) (s412_25 ?_)⟩⟩
      have := ih (i + 1) (by omega)
      rw [List.take_succ, List.getElem?_eq_getElem hlt, Option.toList_some, ← m_app_app, show ((i + 1 : Nat) : Int) = (i : Int) + 1 by omega] at this
      rw [List.getD_eq_getElem?_getD, List.getElem?_eq_getElem hlt, Option.getD_some]
      exact this
  exact z _ 0 (Nat.zero_add _)
end MFF
