/-! PLAY: marks and the state, both sides. -/
/-- a symbol's bit in marks -/
def mbit (m s : Int) : Int := fx_and (fx_shr m s) 1
def mxor (m s : Int) : Int := fx_xor m (fx_shl 1 s)
theorem mark_all : ∀ (m : Fin 16) (s : Fin 4), 0 ≤ mxor ((m : Nat) : Int) ((s : Nat) : Int) ∧ mxor ((m : Nat) : Int) ((s : Nat) : Int) < 16 ∧ 0 ≤ mbit ((m : Nat) : Int) ((s : Nat) : Int) ∧ mbit ((m : Nat) : Int) ((s : Nat) : Int) ≤ 1 := by decide +kernel
theorem mark_b {m s : Int} (hm : 0 ≤ m ∧ m < 16) (hs : 0 ≤ s ∧ s < 4) : 0 ≤ mxor m s ∧ mxor m s < 16 ∧ 0 ≤ mbit m s ∧ mbit m s ≤ 1 := by
  have := mark_all ⟨m.toNat, by omega⟩ ⟨s.toNat, by omega⟩
  simp only at this
  rwa [show ((m.toNat : Nat) : Int) = m by omega, show ((s.toNat : Nat) : Int) = s by omega] at this
/-- mark: 1 no cell, 2 given, 3 no symbol, 6 on, 7 off -/
def v_mark (V : fx_M) (Z : PZ) (c s : Int) : Int × fx_M := if v_ref Z c s = 0 then (if mbit (mxor (V 2 (9 * V 0 0 + c)) s) s = 0 then 7 else 6, fx_up V 2 (9 * V 0 0 + c) (mxor (V 2 (9 * V 0 0 + c)) s)) else (v_ref Z c s, V)
theorem pv_ok_mark {V : fx_M} {l m : Int} (h : pv_ok V) (hm : 0 ≤ m ∧ m < 16) : pv_ok (fx_up V 2 l m) := by
  obtain ⟨h0, h1, h2, h3, h4⟩ := h
  have f : ∀ (i : Nat) (j : Int), i ≠ 2 → (fx_up V 2 l m) i j = V i j := fun i j hi => fx_up_na hi
  refine ⟨by rw [f _ _ (by decide)]; exact h0, by rw [f _ _ (by decide)]; exact h1, fun j j0 j1 => ?_, fun w w0 w1 => by rw [f _ _ (by decide), f _ _ (by decide)]; exact h3 w w0 w1, fun w k w0 w1 k0 k1 => ?_⟩
  · have := h2 j j0 j1
    rw [f _ _ (by decide)]
    by_cases hj : j = l
    · rw [hj, fx_up_self]
      rw [hj] at this
      omega
    · rw [fx_up_nk hj]
      exact this
  · rw [f _ _ (by decide)] at k1
    rw [f _ _ (by decide), f _ _ (by decide), f _ _ (by decide), f _ _ (by decide)]
    exact h4 w k w0 w1 k0 k1
def t_st1 (V : fx_M) (Z : PZ) (c : Nat) : List Int := if (if Z.2.2.2.2.getD c (-1) < 0 then V 1 (9 * V 0 0 + c) else Z.2.2.2.2.getD c (-1)) < 0 then [46] else [48 + (if Z.2.2.2.2.getD c (-1) < 0 then V 1 (9 * V 0 0 + c) else Z.2.2.2.2.getD c (-1))]
theorem dgs_1 {s : Int} (h : 0 ≤ s ∧ s < 10) : dgs s = [48 + s] := by
  have e : dgn s = 0 := by
    unfold dgn
    rw [if_pos (by omega)]
  unfold dgs
  rw [e]
  show [48 + s % 10] = _
  rw [show s % 10 = s by omega]
theorem giv_b {Z : PZ} (ho : pz_ok Z) {c : Nat} (hc : c < 9) : -1 ≤ Z.2.2.2.2.getD c (-1) ∧ Z.2.2.2.2.getD c (-1) < 4 := by
  have h9l := ho.2.2.2.2.2.2.2.2.1
  have hlt : c < Z.2.2.2.2.length := by omega
  have hm : Z.2.2.2.2.getD c (-1) ∈ Z.2.2.2.2 := by
    rw [List.getD_eq_getElem?_getD, List.getElem?_eq_getElem hlt]
    exact List.getElem_mem hlt
  have := ho.2.2.2.2.2.2.2.2.2.1 _ hm
  have := ho.2.2.2.2.2.1
  omega
section MRK
variable {L : Nat} {xs : Nat → Int32} {kc : List va_E} {d p o : Nat} {V : fx_M} {Q : Option fx_V → fx_M → Prop} {Z : PZ}
/-- mark of the class; 6 on, 7 off -/
theorem sp_pmark {M : fx_M} {c s : Int} (Hp : fx_puz p) (hz : cz M p Z) (ho : pz_ok Z) (hv : cpv M V) (hvo : pv_ok V) (hc : 0 ≤ c ∧ c < 1000) (hs : 0 ≤ s ∧ s < 1000) (K : ∀ a M', ((v_mark V Z c s).1 = 1 ∧ a = 1000129) ∨ ((v_mark V Z c s).1 = 2 ∧ a = 1000131) ∨ ((v_mark V Z c s).1 = 3 ∧ a = 1000133) ∨ ((v_mark V Z c s).1 = 6 ∧ a = 1000143) ∨ ((v_mark V Z c s).1 = 7 ∧ a = 1000145) → cpv M' (v_mark V Z c s).2 → pv_ok (v_mark V Z c s).2 → (∀ b j, ¬ (54 ≤ b ∧ b ≤ 61) → M' b j = M b j) → Q (some (jR a)) M') : wc (kcs L xs) (d + 2) 174 [jR 53, jR p, jI c, jI s] M Q := by
  have h9 := pz_n ho
  have o6 := ho.2.2.2.2.2.1
  have hvo2 := hvo
  obtain ⟨h0, h1, h2, h3, h4⟩ := hvo
  have e0 : M 53 0 = V 0 0 := hv.1
  refine s174 Hp (sp_refusal Hp hz ho hc (by omega) (fun a ha => s174_7 Hp ?_))
  unfold v_mark at K
  by_cases hr : v_ref Z c s = 0
  · have ha : a = 1000135 := by omega
    subst ha
    have hcs := v_ref_c hr
    rw [if_pos hr] at K
    dsimp only at K
    refine ⟨⟨_, lt_1000135⟩, sp_isEmpty lt_1000135 (s174_14 Hp ?_)⟩
    have pl : 0 ≤ 9 * V 0 0 + c ∧ 9 * V 0 0 + c < 27 := by omega
    have r2 : M 55 (9 * V 0 0 + c) = V 2 (9 * V 0 0 + c) := hv.2 2 _ (by omega) (by omega) pl.1 (by show _ < (27 : Int); omega)
    have b1 := h2 (9 * V 0 0 + c) (by omega) (by omega)
    have hb := mark_b (m := V 2 (9 * V 0 0 + c)) (s := s) (by omega) (by omega)
    have hb2 := mark_b (m := mxor (V 2 (9 * V 0 0 + c)) s) (s := s) (by omega) (by omega)
    rw [e0, r2]
    refine ⟨i01.2, fun _ => ⟨pl, pl, pl, ?_, fun hz0 => ?_, fun hz0 => ?_⟩, fun h => absurd h (by decide)⟩
    · show fx_in32 (mbit (mxor (V 2 (9 * V 0 0 + c)) s) s)
      exact ⟨by omega, by omega⟩
    · have hz0 : mbit (mxor (V 2 (9 * V 0 0 + c)) s) s = 0 := hz0
      rw [if_pos hz0] at K
      exact K _ _ (Or.inr (Or.inr (Or.inr (Or.inr ⟨rfl, rfl⟩)))) (cpv_up (i := 2) hv (by omega) (by omega)) (pv_ok_mark hvo2 ⟨hb.1, hb.2.1⟩) (fun b j hb => fx_up_na (by omega))
    · have hz0 : ¬ mbit (mxor (V 2 (9 * V 0 0 + c)) s) s = 0 := hz0
      rw [if_neg hz0] at K
      exact K _ _ (Or.inr (Or.inr (Or.inr (Or.inl ⟨rfl, rfl⟩)))) (cpv_up (i := 2) hv (by omega) (by omega)) (pv_ok_mark hvo2 ⟨hb.1, hb.2.1⟩) (fun b j hb => fx_up_na (by omega))
  · rw [if_neg hr] at K
    dsimp only at K
    have fin : ∀ bs, fx_str (kcs L xs) a bs → bs ≠ [] → ((v_ref Z c s = 1 ∧ a = 1000129) ∨ (v_ref Z c s = 2 ∧ a = 1000131) ∨ (v_ref Z c s = 3 ∧ a = 1000133)) → fx_lit (kcs L xs) a ∧ wc (kcs L xs) (d + 1) 50 [jR a] M (fun v M1 => wp (kcs L xs) (d + 2) 174 14 [some (jR 53), none, some (jI c), some (jI s), some (jR a), none] (v.toList ++ []) M1 Q) := fun bs hbs hne hp => ⟨⟨_, hbs⟩, sp_isEmpty hbs (by
      rw [if_neg hne]
      exact s174_14 Hp ⟨i01.1, fun h => absurd rfl h, fun _ => K _ M (by omega) hv hvo2 (fun _ _ _ => rfl)⟩)⟩
    rcases ha with ⟨h, -⟩ | ⟨h, rfl⟩ | ⟨h, rfl⟩ | ⟨h, rfl⟩
    · exact absurd h hr
    · exact fin _ lt_1000129 (by decide) (Or.inl ⟨h, rfl⟩)
    · exact fin _ lt_1000131 (by decide) (Or.inr (Or.inl ⟨h, rfl⟩))
    · exact fin _ lt_1000133 (by decide) (Or.inr (Or.inr ⟨h, rfl⟩))
theorem pst_loop (Hp : fx_puz p) (Ho : fx_out o) (ho : pz_ok Z) (hvo : pv_ok V) : ∀ (t c : Nat) (M : fx_M), (c : Int) + t = Z.1 * Z.2.1 → cz M p Z → cpv M V → o_ok M o → Q none (o_app M o ((List.range' c t).flatMap (t_st1 V Z))) → wp (kcs L xs) (d + 2) 173 2 [some (jR 53), some (jR p), some (jR o), some (jI c), none] [] M Q := by
  have h9 := pz_n ho
  have hpo := fx_puz_out Hp Ho
  have ho5 : o ≤ 5 := by
    unfold fx_out at Ho
    simp at Ho
    omega
  obtain ⟨h0, h1, h2, h3, h4⟩ := hvo
  intro t
  induction t with
  | zero =>
    intro c M hc hz hv hO K
    refine s173_2 Hp Ho ?_
    rw [hz.2.2.1]
    exact ⟨⟨⟨by omega, by omega⟩, ⟨by omega, by omega⟩⟩, fun _ => K, fun h => by omega⟩
  | succ t ih =>
    intro c M hc hz hv hO K
    have e1 : ((c + 1 : Nat) : Int) = (c : Int) + 1 := by omega
    have hgv := hz.2.2.2.2.2.2.1 c (by omega)
    have hgb := giv_b ho (c := c) (by omega)
    have r1 : M 54 (9 * V 0 0 + c) = V 1 (9 * V 0 0 + c) := hv.2 1 _ (by omega) (by omega) (by omega) (by show _ < (27 : Int); omega)
    have b1 := h2 (9 * V 0 0 + c) (by omega) (by omega)
    rw [List.range'_succ, List.flatMap_cons] at K
    have sb : -1 ≤ (if Z.2.2.2.2.getD c (-1) < 0 then V 1 (9 * V 0 0 + c) else Z.2.2.2.2.getD c (-1)) ∧ (if Z.2.2.2.2.getD c (-1) < 0 then V 1 (9 * V 0 0 + c) else Z.2.2.2.2.getD c (-1)) < 4 := by split <;> omega
    have nx : ∀ ts, t_st1 V Z c = ts → wp (kcs L xs) (d + 2) 173 2 [some (jR 53), some (jR p), some (jR o), some (jI ((c : Int) + 1)), none] [] (o_app M o ts) Q := fun ts hts => by
      rw [hts] at K
      have := ih (c + 1) (o_app M o ts) (by omega) (cz_app Hp Ho hz) (cpv_fr hv (fun b j b1 b2 => o_app_ne (by omega) (by omega))) (o_ok_app hO) (by
        rw [o_app_app]
        exact K)
      rw [e1] at this
      exact this
    unfold t_st1 at nx
    refine s173_2 Hp Ho ?_
    rw [hz.2.2.1, hgv, hv.1, r1]
    generalize (if Z.2.2.2.2.getD c (-1) < 0 then V 1 (9 * V 0 0 + c) else Z.2.2.2.2.getD c (-1)) = s at sb nx
    refine ⟨⟨⟨by omega, by omega⟩, ⟨by omega, by omega⟩⟩, fun h => by omega, fun _ => ⟨⟨by omega, by omega⟩, ⟨by omega, by omega⟩, fun _ => ⟨by omega, by omega⟩, fun _ => ⟨by omega, by omega⟩, ⟨by omega, by omega⟩, fun hp => ?_, fun hn => ?_⟩⟩
    · refine sp_number Ho hO hp (by omega) (s173_64 Hp Ho ?_)
      rw [dgs_1 (by omega)]
      exact nx _ (by rw [if_neg (by omega)])
    · exact sp_put Ho hO (by omega) (s173_55 Hp Ho (nx [46] (by rw [if_pos hn])))
/-- write of the play -/
theorem sp_pstate {M : fx_M} (Hp : fx_puz p) (Ho : fx_out o) (ho : pz_ok Z) (hz : cz M p Z) (hv : cpv M V) (hvo : pv_ok V) (hO : o_ok M o) (K : Q none (o_app M o ((List.range (Z.1 * Z.2.1).toNat).flatMap (t_st1 V Z)))) : wc (kcs L xs) (d + 2) 173 [jR 53, jR p, jR o] M Q := by
  have h9 := pz_n ho
  refine s173 Hp Ho (pst_loop Hp Ho ho hvo (Z.1 * Z.2.1).toNat 0 M (by omega) hz hv hO ?_)
  rw [← List.range_eq_range']
  exact K
theorem mst_loop (ho : pz_ok Z) (hvo : pv_ok V) : ∀ (t c : Nat) (M : fx_M), (c : Int) + t = Z.1 * Z.2.1 → mz M 0 Z → mpv M V → m_ok M → Q none (m_app M ((List.range' c t).flatMap (t_st1 V Z))) → wp kc (d + 2) 328 2 [some (jR 133), some (jI c), none] [] M Q := by
  have h9 := pz_n ho
  obtain ⟨h0, h1, h2, h3, h4⟩ := hvo
  intro t
  induction t with
  | zero =>
    intro c M hc hz hv hO K
    refine s328_2 (s248 ?_)
    rw [hz.1, hz.2.1]
    exact s328_7 ⟨⟨⟨by omega, by omega⟩, ⟨by omega, by omega⟩⟩, fun _ => K, fun h => by omega⟩
  | succ t ih =>
    intro c M hc hz hv hO K
    have e1 : ((c + 1 : Nat) : Int) = (c : Int) + 1 := by omega
    have hgv := hz.2.2.2.2.2 c (by omega)
    rw [show 9 * (0 : Int) + (c : Int) = c by omega] at hgv
    have hgb := giv_b ho (c := c) (by omega)
    have r1 : M 174 (9 * V 0 0 + c) = V 1 (9 * V 0 0 + c) := hv.2 1 _ (by omega) (by omega) (by omega) (by show _ < (27 : Int); omega)
    have b1 := h2 (9 * V 0 0 + c) (by omega) (by omega)
    rw [List.range'_succ, List.flatMap_cons] at K
    have nx : ∀ x, t_st1 V Z c = [x] → wp kc (d + 2) 328 58 [some (jR 133), some (jI (c : Int)), none] [] (m_put M x) Q := fun x hx => by
      rw [hx] at K
      refine s328_58 ?_
      have := ih (c + 1) (m_app M [x]) (by omega) (mz_app hz) (mpv_fr hv (m_app_ne (by omega) (by decide)) (fun b j b1 b2 => m_app_ne (by omega) (by omega))) (m_ok_app hO) (by
        rw [m_app_app]
        exact K)
      rw [e1] at this
      exact this
    unfold t_st1 at nx
    refine s328_2 (s248 ?_)
    rw [hz.1, hz.2.1]
    refine s328_7 ⟨⟨⟨by omega, by omega⟩, ⟨by omega, by omega⟩⟩, fun h => by omega, fun _ => s271 ⟨⟨by omega, by omega⟩, ?_⟩⟩
    rw [hgv]
    refine s328_15 ?_
    rw [hv.1, r1]
    refine ⟨⟨by omega, by omega⟩, fun hn => ⟨⟨by omega, by omega⟩, ⟨by omega, by omega⟩, sp_sayByte hO (nx _ ?_)⟩, fun hp => s271 ⟨⟨by omega, by omega⟩, ?_⟩⟩
    · rw [if_pos hn]
      by_cases hs : V 1 (9 * V 0 0 + c) < 0
      · rw [if_pos hs, if_pos hs]
      · rw [if_neg hs, if_neg hs]
    · rw [hgv]
      refine s328_23 ⟨⟨by omega, by omega⟩, ?_⟩
      rw [if_neg (by omega)]
      refine sp_sayByte hO (nx _ ?_)
      rw [if_neg (show ¬ Z.2.2.2.2.getD c (-1) < 0 by omega), if_neg (by omega)]
/-- sayState -/
theorem sp_sayState {M : fx_M} (ho : pz_ok Z) (hz : mz M 0 Z) (hv : mpv M V) (hvo : pv_ok V) (hO : m_ok M) (K : Q none (m_app M ((List.range (Z.1 * Z.2.1).toNat).flatMap (t_st1 V Z)))) : wc kc (d + 2) 328 [jR 133] M Q := by
  have h9 := pz_n ho
  refine s328 (mst_loop ho hvo (Z.1 * Z.2.1).toNat 0 M (by omega) hz hv hO ?_)
  rw [← List.range_eq_range']
  exact K
end MRK
