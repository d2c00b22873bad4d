/-! PLAY: what moves do, as functions; the class's moves. -/
/-- refused: 1 no cell, 2 given, 3 no symbol; 0 nothing -/
def v_ref (Z : PZ) (c s : Int) : Int := if c < Z.1 * Z.2.1 then (if Z.2.2.2.2.getD c.toNat (-1) < 0 then (if s < Z.2.2.1 then 0 else 3) else 2) else 1
def v_putV (V : fx_M) (c s : Int) : fx_M := fx_up (fx_up (fx_up (fx_up (fx_up (fx_up (fx_up V 5 (100 * V 0 0 + V 3 (V 0 0)) (V 4 (V 0 0))) 6 (100 * V 0 0 + V 3 (V 0 0)) c) 7 (100 * V 0 0 + V 3 (V 0 0)) (V 1 (9 * V 0 0 + c))) 8 (100 * V 0 0 + V 3 (V 0 0)) s) 4 (V 0 0) (V 3 (V 0 0))) 3 (V 0 0) (V 3 (V 0 0) + 1)) 1 (9 * V 0 0 + c) s
/-- put: 0 ok, 1 no cell, 2 given, 3 no symbol, 4 same, 5 no room -/
def v_put (V : fx_M) (Z : PZ) (c s : Int) : Int × fx_M := if v_ref Z c s = 0 then (if V 1 (9 * V 0 0 + c) = s then (4, V) else if V 3 (V 0 0) < 100 then (0, v_putV V c s) else (5, V)) else (v_ref Z c s, V)
/-- undo: 0 ok, 1 no step -/
def v_undo (V : fx_M) : Int × fx_M := if 0 ≤ V 4 (V 0 0) then (0, fx_up (fx_up V 1 (9 * V 0 0 + V 6 (100 * V 0 0 + V 4 (V 0 0))) (V 7 (100 * V 0 0 + V 4 (V 0 0)))) 4 (V 0 0) (V 5 (100 * V 0 0 + V 4 (V 0 0)))) else (1, V)
/-- redo from step i on: 0 ok, 1 no step -/
def v_redo (V : fx_M) : Nat → Int → Int → Int × fx_M
  | 0, _, _ => (1, V)
  | f + 1, n, i => if V 5 (100 * V 0 0 + i) = V 4 (V 0 0) then (if n = 0 then (0, fx_up (fx_up V 1 (9 * V 0 0 + V 6 (100 * V 0 0 + i)) (V 8 (100 * V 0 0 + i))) 4 (V 0 0) i) else v_redo V f (n - 1) (i + 1)) else v_redo V f n (i + 1)
theorem pv_ok_put {V : fx_M} {c s : Int} (h : pv_ok V) (hc : 0 ≤ c ∧ c < 9) (hs : -1 ≤ s ∧ s < 4) (hr : V 3 (V 0 0) < 100) : pv_ok (v_putV V c s) := by
  obtain ⟨h0, h1, h2, h3, h4⟩ := h
  have a3 := h3 (V 0 0) h0 h1
  have e0 : (v_putV V c s) 0 0 = V 0 0 := by
    unfold v_putV
    rw [fx_up_na (by decide), fx_up_na (by decide), fx_up_na (by decide), fx_up_na (by decide), fx_up_na (by decide), fx_up_na (by decide), fx_up_na (by decide)]
  have e1 : ∀ j, (v_putV V c s) 1 j = if j = 9 * V 0 0 + c then s else V 1 j := fun j => by
    unfold v_putV
    by_cases hj : j = 9 * V 0 0 + c
    · rw [if_pos hj, hj, fx_up_self]
    · rw [if_neg hj, fx_up_nk hj, fx_up_na (by decide), fx_up_na (by decide), fx_up_na (by decide), fx_up_na (by decide), fx_up_na (by decide), fx_up_na (by decide)]
  have e2 : ∀ j, (v_putV V c s) 2 j = V 2 j := fun j => by
    unfold v_putV
    rw [fx_up_na (by decide), fx_up_na (by decide), fx_up_na (by decide), fx_up_na (by decide), fx_up_na (by decide), fx_up_na (by decide), fx_up_na (by decide)]
  have e3 : ∀ j, (v_putV V c s) 3 j = if j = V 0 0 then V 3 (V 0 0) + 1 else V 3 j := fun j => by
    unfold v_putV
    rw [fx_up_na (by decide)]
    by_cases hj : j = V 0 0
    · rw [if_pos hj, hj, fx_up_self]
    · rw [if_neg hj, fx_up_nk hj, fx_up_na (by decide), fx_up_na (by decide), fx_up_na (by decide), fx_up_na (by decide), fx_up_na (by decide)]
  have e4 : ∀ j, (v_putV V c s) 4 j = if j = V 0 0 then V 3 (V 0 0) else V 4 j := fun j => by
    unfold v_putV
    rw [fx_up_na (by decide), fx_up_na (by decide)]
    by_cases hj : j = V 0 0
    · rw [if_pos hj, hj, fx_up_self]
    · rw [if_neg hj, fx_up_nk hj, fx_up_na (by decide), fx_up_na (by decide), fx_up_na (by decide), fx_up_na (by decide)]
  have e5 : ∀ j, (v_putV V c s) 5 j = if j = 100 * V 0 0 + V 3 (V 0 0) then V 4 (V 0 0) else V 5 j := fun j => by
    unfold v_putV
    rw [fx_up_na (by decide), fx_up_na (by decide), fx_up_na (by decide), fx_up_na (by decide), fx_up_na (by decide), fx_up_na (by decide)]
    by_cases hj : j = 100 * V 0 0 + V 3 (V 0 0)
    · rw [if_pos hj, hj, fx_up_self]
    · rw [if_neg hj, fx_up_nk hj]
  have e6 : ∀ j, (v_putV V c s) 6 j = if j = 100 * V 0 0 + V 3 (V 0 0) then c else V 6 j := fun j => by
    unfold v_putV
    rw [fx_up_na (by decide), fx_up_na (by decide), fx_up_na (by decide), fx_up_na (by decide), fx_up_na (by decide)]
    by_cases hj : j = 100 * V 0 0 + V 3 (V 0 0)
    · rw [if_pos hj, hj, fx_up_self]
    · rw [if_neg hj, fx_up_nk hj, fx_up_na (by decide)]
  have e7 : ∀ j, (v_putV V c s) 7 j = if j = 100 * V 0 0 + V 3 (V 0 0) then V 1 (9 * V 0 0 + c) else V 7 j := fun j => by
    unfold v_putV
    rw [fx_up_na (by decide), fx_up_na (by decide), fx_up_na (by decide), fx_up_na (by decide)]
    by_cases hj : j = 100 * V 0 0 + V 3 (V 0 0)
    · rw [if_pos hj, hj, fx_up_self]
    · rw [if_neg hj, fx_up_nk hj, fx_up_na (by decide), fx_up_na (by decide)]
  have e8 : ∀ j, (v_putV V c s) 8 j = if j = 100 * V 0 0 + V 3 (V 0 0) then s else V 8 j := fun j => by
    unfold v_putV
    rw [fx_up_na (by decide), fx_up_na (by decide), fx_up_na (by decide)]
    by_cases hj : j = 100 * V 0 0 + V 3 (V 0 0)
    · rw [if_pos hj, hj, fx_up_self]
    · rw [if_neg hj, fx_up_nk hj, fx_up_na (by decide), fx_up_na (by decide), fx_up_na (by decide)]
  have ep := h2 (9 * V 0 0 + c) (by omega) (by omega)
  refine ⟨by rw [e0]; exact h0, by rw [e0]; exact h1, fun j j0 j1 => ?_, fun w w0 w1 => ?_, fun w k w0 w1 k0 k1 => ?_⟩
  · have := h2 j j0 j1
    rw [e1, e2]
    split <;> omega
  · have := h3 w w0 w1
    rw [e3, e4]
    by_cases hw : w = V 0 0
    · rw [if_pos hw, if_pos hw]
      omega
    · rw [if_neg hw, if_neg hw]
      omega
  · rw [e3] at k1
    rw [e5, e6, e7, e8]
    by_cases hj : 100 * w + k = 100 * V 0 0 + V 3 (V 0 0)
    · have hk100 : k < 101 := by
        have := h3 w w0 w1
        split at k1 <;> omega
      have hwk : w = V 0 0 ∧ k = V 3 (V 0 0) := by
        have := h3 w w0 w1
        by_cases hw : w = V 0 0
        · exact ⟨hw, by rw [hw] at hj; omega⟩
        · rw [if_neg hw] at k1
          omega
      rw [if_pos hj, if_pos hj, if_pos hj, if_pos hj]
      omega
    · rw [if_neg hj, if_neg hj, if_neg hj, if_neg hj]
      refine h4 w k w0 w1 k0 ?_
      by_cases hw : w = V 0 0
      · rw [if_pos hw] at k1
        have : k ≠ V 3 (V 0 0) := fun hx => hj (by rw [hw, hx])
        rw [hw]
        omega
      · rw [if_neg hw] at k1
        exact k1
theorem pv_ok_move {V : fx_M} {l e x : Int} (h : pv_ok V) (hl : 0 ≤ l ∧ l < 27) (he : -1 ≤ e ∧ e < 4) (hx : -1 ≤ x ∧ x < V 3 (V 0 0)) : pv_ok (fx_up (fx_up V 1 l e) 4 (V 0 0) x) := by
  obtain ⟨h0, h1, h2, h3, h4⟩ := h
  refine ⟨by rw [fx_up_na (by decide), fx_up_na (by decide)]; exact h0, by rw [fx_up_na (by decide), fx_up_na (by decide)]; exact h1, fun j j0 j1 => ?_, fun w w0 w1 => ?_, fun w k w0 w1 k0 k1 => ?_⟩
  · have := h2 j j0 j1
    have e2 : (fx_up (fx_up V 1 l e) 4 (V 0 0) x) 2 j = V 2 j := by rw [fx_up_na (by decide), fx_up_na (by decide)]
    rw [e2, fx_up_na (by decide)]
    by_cases hj : j = l
    · rw [hj, fx_up_self]
      rw [hj] at this
      omega
    · rw [fx_up_nk hj]
      exact this
  · have := h3 w w0 w1
    have e3 : (fx_up (fx_up V 1 l e) 4 (V 0 0) x) 3 w = V 3 w := by rw [fx_up_na (by decide), fx_up_na (by decide)]
    rw [e3]
    by_cases hw : w = V 0 0
    · rw [hw, fx_up_self]
      rw [hw] at this
      omega
    · rw [fx_up_nk hw, fx_up_na (by decide)]
      exact this
  · have e3 : (fx_up (fx_up V 1 l e) 4 (V 0 0) x) 3 w = V 3 w := by rw [fx_up_na (by decide), fx_up_na (by decide)]
    rw [e3] at k1
    have f : ∀ (i : Nat) (j : Int), i ≠ 1 → i ≠ 4 → (fx_up (fx_up V 1 l e) 4 (V 0 0) x) i j = V i j := fun i j i1 i4 => by rw [fx_up_na i4, fx_up_na i1]
    rw [f 5 _ (by decide) (by decide), f 6 _ (by decide) (by decide), f 7 _ (by decide) (by decide), f 8 _ (by decide) (by decide)]
    exact h4 w k w0 w1 k0 k1
/-- literals of moves -/
def pla (a : Nat) (r : Int) : Prop := (r = 0 ∧ a = 1000127) ∨ (r = 1 ∧ a = 1000129) ∨ (r = 2 ∧ a = 1000131) ∨ (r = 3 ∧ a = 1000133) ∨ (r = 4 ∧ a = 1000137) ∨ (r = 5 ∧ a = 1000139)
section MOV
variable {L : Nat} {xs : Nat → Int32} {d p : Nat} {M V : fx_M} {Q : Option fx_V → fx_M → Prop} {Z : PZ}
/-- refusal -/
theorem sp_refusal {c s : Int} (Hp : fx_puz p) (hz : cz M p Z) (ho : pz_ok Z) (hc : 0 ≤ c ∧ c < 1000) (hs : -1 ≤ s ∧ s < 1000) (K : ∀ a, (v_ref Z c s = 0 ∧ a = 1000135) ∨ (v_ref Z c s = 1 ∧ a = 1000129) ∨ (v_ref Z c s = 2 ∧ a = 1000131) ∨ (v_ref Z c s = 3 ∧ a = 1000133) → Q (some (jR a)) M) : wc (kcs L xs) (d + 1) 170 [jR 53, jR p, jI c, jI s] M Q := by
  have h9 := pz_n ho
  have o5 := ho.2.2.2.2.1
  have o6 := ho.2.2.2.2.2.1
  have z2 := hz.2.2.1
  have z3 := hz.2.2.2.1
  unfold v_ref at K
  refine s170 Hp ?_
  rw [z2, z3]
  refine ⟨⟨⟨by omega, by omega⟩, ⟨by omega, by omega⟩⟩, fun h1 => ?_, fun h1 => ?_⟩
  · have hg := hz.2.2.2.2.2.2.1 c.toNat (by omega)
    rw [show ((c.toNat : Nat) : Int) = c by omega] at hg
    have hgb : -1 ≤ Z.2.2.2.2.getD c.toNat (-1) ∧ Z.2.2.2.2.getD c.toNat (-1) < 4 := by
      have h9l := ho.2.2.2.2.2.2.2.2.1
      have hlt : c.toNat < Z.2.2.2.2.length := by omega
      have hm : Z.2.2.2.2.getD c.toNat (-1) ∈ Z.2.2.2.2 := by
        rw [List.getD_eq_getElem?_getD, List.getElem?_eq_getElem hlt]
        exact List.getElem_mem hlt
      have := ho.2.2.2.2.2.2.2.2.2.1 _ hm
      omega
    rw [hg]
    rw [if_pos h1] at K
    refine ⟨⟨by omega, by omega⟩, ⟨by omega, by omega⟩, fun h2 => ⟨⟨⟨by omega, by omega⟩, ⟨by omega, by omega⟩⟩, fun h3 => ?_, fun h3 => ?_⟩, fun h2 => ?_⟩
    · rw [if_pos h2, if_pos h3] at K
      exact K _ (Or.inl ⟨rfl, rfl⟩)
    · rw [if_pos h2, if_neg (by omega)] at K
      exact K _ (Or.inr (Or.inr (Or.inr ⟨rfl, rfl⟩)))
    · rw [if_neg (by omega)] at K
      exact K _ (Or.inr (Or.inr (Or.inl ⟨rfl, rfl⟩)))
  · rw [if_neg (by omega)] at K
    exact K _ (Or.inr (Or.inl ⟨rfl, rfl⟩))
theorem v_ref_c {c s : Int} (h : v_ref Z c s = 0) : c < Z.1 * Z.2.1 ∧ s < Z.2.2.1 := by
  unfold v_ref at h
  split at h
  · next hc =>
    split at h
    · split at h
      · next hs => exact ⟨hc, hs⟩
      · exact absurd h (by decide)
    · exact absurd h (by decide)
  · exact absurd h (by decide)
/-- put -/
theorem sp_pput {c s : Int} (Hp : fx_puz p) (hz : cz M p Z) (ho : pz_ok Z) (hv : cpv M V) (hvo : pv_ok V) (hc : 0 ≤ c ∧ c < 1000) (hs : -1 ≤ s ∧ s < 1000) (K : ∀ a M', pla a (v_put V Z c s).1 → cpv M' (v_put V Z c s).2 → pv_ok (v_put V Z c s).2 → (∀ b j, ¬ (54 ≤ b ∧ b ≤ 61) → M' b j = M b j) → Q (some (jR a)) M') : wc (kcs L xs) (d + 2) 169 [jR 53, jR p, jI c, jI s] M Q := by
  have h9 := pz_n ho
  have o6 := ho.2.2.2.2.2.1
  have hvo2 := hvo
  obtain ⟨h0, h1, h2, h3, h4⟩ := hvo
  have w3 := h3 (V 0 0) h0 h1
  have e0 : M 53 0 = V 0 0 := hv.1
  refine s169 Hp (sp_refusal Hp hz ho hc hs (fun a ha => s169_7 Hp ?_))
  unfold v_put at K
  by_cases hr : v_ref Z c s = 0
  · have ha : a = 1000135 := by omega
    subst ha
    have hcs := v_ref_c hr
    rw [if_pos hr] at K
    refine ⟨⟨_, lt_1000135⟩, sp_isEmpty lt_1000135 (s169_14 Hp ?_)⟩
    have r1 : M 54 (9 * V 0 0 + c) = V 1 (9 * V 0 0 + c) := hv.2 1 _ (by omega) (by omega) (by omega) (by show _ < (27 : Int); omega)
    have r3 : M 56 (V 0 0) = V 3 (V 0 0) := hv.2 3 _ (by omega) (by omega) h0 (by show _ < (3 : Int); omega)
    have r4 : M 57 (V 0 0) = V 4 (V 0 0) := hv.2 4 _ (by omega) (by omega) h0 (by show _ < (3 : Int); omega)
    have b1 := h2 (9 * V 0 0 + c) (by omega) (by omega)
    rw [e0, r1, r3, r4]
    refine ⟨i01.2, fun _ => ⟨⟨by omega, by omega⟩, ⟨⟨by omega, by omega⟩, ⟨by omega, by omega⟩⟩, fun hne => ?_, fun he => ?_⟩, fun h => absurd h (by decide)⟩
    · rw [if_neg hne] at K
      refine ⟨⟨h0, h1⟩, ⟨by omega, by omega⟩, fun hlt => ?_, fun hge => ?_⟩
      · rw [if_pos hlt] at K
        have st : 0 ≤ 100 * V 0 0 + V 3 (V 0 0) ∧ 100 * V 0 0 + V 3 (V 0 0) < 300 := by omega
        have pl : 0 ≤ 9 * V 0 0 + c ∧ 9 * V 0 0 + c < 27 := by omega
        refine ⟨⟨h0, h1⟩, ⟨h0, h1⟩, st, st, pl, st, st, ⟨h0, h1⟩, ⟨h0, h1⟩, ⟨h0, h1⟩, ⟨h0, h1⟩, pl, K _ _ (Or.inl ⟨rfl, rfl⟩) ?_ (pv_ok_put hvo2 (by omega) (by omega) hlt) (fun b j hb => ?_)⟩
        · exact cpv_up (i := 1) (cpv_up (i := 3) (cpv_up (i := 4) (cpv_up (i := 8) (cpv_up (i := 7) (cpv_up (i := 6) (cpv_up (i := 5) hv (by omega) (by omega)) (by omega) (by omega)) (by omega) (by omega)) (by omega) (by omega)) (by omega) (by omega)) (by omega) (by omega)) (by omega) (by omega)
        · rw [fx_up_na (by omega), fx_up_na (by omega), fx_up_na (by omega), fx_up_na (by omega), fx_up_na (by omega), fx_up_na (by omega), fx_up_na (by omega)]
      · rw [if_neg (by omega)] at K
        exact K _ M (Or.inr (Or.inr (Or.inr (Or.inr (Or.inr ⟨rfl, rfl⟩))))) hv hvo2 (fun _ _ _ => rfl)
    · rw [if_pos he] at K
      exact K _ M (Or.inr (Or.inr (Or.inr (Or.inr (Or.inl ⟨rfl, rfl⟩))))) hv hvo2 (fun _ _ _ => rfl)
  · rw [if_neg hr] at K
    have fin : ∀ bs, fx_str (kcs L xs) a bs → bs ≠ [] → pla a (v_ref Z c s) → fx_lit (kcs L xs) a ∧ wc (kcs L xs) (d + 1) 50 [jR a] M (fun v M1 => wp (kcs L xs) (d + 2) 169 14 [some (jR 53), none, some (jI c), some (jI s), some (jR a), none, none] (v.toList ++ []) M1 Q) := fun bs hbs hne hp => ⟨⟨_, hbs⟩, sp_isEmpty hbs (by
      rw [if_neg hne]
      exact s169_14 Hp ⟨i01.1, fun h => absurd rfl h, fun _ => K _ M hp hv hvo2 (fun _ _ _ => rfl)⟩)⟩
    rcases ha with ⟨h, -⟩ | ⟨h, rfl⟩ | ⟨h, rfl⟩ | ⟨h, rfl⟩
    · exact absurd h hr
    · exact fin _ lt_1000129 (by decide) (Or.inr (Or.inl ⟨h, rfl⟩))
    · exact fin _ lt_1000131 (by decide) (Or.inr (Or.inr (Or.inl ⟨h, rfl⟩)))
    · exact fin _ lt_1000133 (by decide) (Or.inr (Or.inr (Or.inr (Or.inl ⟨h, rfl⟩))))
/-- undo -/
theorem sp_pundo (hv : cpv M V) (hvo : pv_ok V) (K0 : (v_undo V).1 = 0 → ∀ M', cpv M' (v_undo V).2 → pv_ok (v_undo V).2 → (∀ b j, ¬ (54 ≤ b ∧ b ≤ 61) → M' b j = M b j) → Q (some (jR 1000127)) M') (K1 : (v_undo V).1 = 1 → Q (some (jR 1000141)) M) : wc (kcs L xs) (d + 1) 171 [jR 53] M Q := by
  have hvo2 := hvo
  obtain ⟨h0, h1, h2, h3, h4⟩ := hvo
  have w3 := h3 (V 0 0) h0 h1
  have e0 : M 53 0 = V 0 0 := hv.1
  have r4 : M 57 (V 0 0) = V 4 (V 0 0) := hv.2 4 _ (by omega) (by omega) h0 (by show _ < (3 : Int); omega)
  unfold v_undo at K0 K1
  refine s171 ?_
  rw [e0, r4]
  refine ⟨⟨h0, h1⟩, ⟨by omega, by omega⟩, fun hp => ?_, fun hn => ?_⟩
  · rw [if_pos hp] at K0
    dsimp only at K0
    have k4 := h4 (V 0 0) (V 4 (V 0 0)) h0 h1 hp w3.2.2.2
    have st : 0 ≤ 100 * V 0 0 + V 4 (V 0 0) ∧ 100 * V 0 0 + V 4 (V 0 0) < 300 := by omega
    have r5 : M 58 (100 * V 0 0 + V 4 (V 0 0)) = V 5 (100 * V 0 0 + V 4 (V 0 0)) := hv.2 5 _ (by omega) (by omega) st.1 (by show _ < (300 : Int); omega)
    have r6 : M 59 (100 * V 0 0 + V 4 (V 0 0)) = V 6 (100 * V 0 0 + V 4 (V 0 0)) := hv.2 6 _ (by omega) (by omega) st.1 (by show _ < (300 : Int); omega)
    have r7 : M 60 (100 * V 0 0 + V 4 (V 0 0)) = V 7 (100 * V 0 0 + V 4 (V 0 0)) := hv.2 7 _ (by omega) (by omega) st.1 (by show _ < (300 : Int); omega)
    rw [r5, r6, r7]
    refine ⟨⟨h0, h1⟩, st, st, ⟨by omega, by omega⟩, st, ⟨h0, h1⟩, K0 rfl _ (cpv_up (i := 4) (cpv_up (i := 1) hv (by omega) (by omega)) (by omega) (by omega)) ?_ (fun b j hb => by rw [fx_up_na (by omega), fx_up_na (by omega)])⟩
    exact pv_ok_move hvo2 (by omega) (by omega) (by omega)
  · rw [if_neg (by omega)] at K1
    exact K1 rfl
theorem redo_loop (hv : cpv M V) (hvo : pv_ok V) : ∀ (f : Nat) (n i : Int), i + f = V 3 (V 0 0) → 0 ≤ i → 0 ≤ n → n < 1000 → ((v_redo V f n i).1 = 0 → ∀ M', cpv M' (v_redo V f n i).2 → pv_ok (v_redo V f n i).2 → (∀ b j, ¬ (54 ≤ b ∧ b ≤ 61) → M' b j = M b j) → Q (some (jR 1000127)) M') → ((v_redo V f n i).1 = 1 → Q (some (jR 1000141)) M) → wp (kcs L xs) (d + 1) 172 4 [some (jR 53), none, some (jI n), some (jI i), none] [] M Q := by
  have hvo2 := hvo
  obtain ⟨h0, h1, h2, h3, h4⟩ := hvo
  have w3 := h3 (V 0 0) h0 h1
  have e0 : M 53 0 = V 0 0 := hv.1
  have r3 : M 56 (V 0 0) = V 3 (V 0 0) := hv.2 3 _ (by omega) (by omega) h0 (by show _ < (3 : Int); omega)
  have r4 : M 57 (V 0 0) = V 4 (V 0 0) := hv.2 4 _ (by omega) (by omega) h0 (by show _ < (3 : Int); omega)
  intro f
  induction f with
  | zero =>
    intro n i hi hi0 hn hn2 K0 K1
    refine s172_4 ?_
    rw [e0, r3]
    exact ⟨⟨h0, h1⟩, ⟨⟨by omega, by omega⟩, ⟨by omega, by omega⟩⟩, fun _ => K1 rfl, fun h => by omega⟩
  | succ f ih =>
    intro n i hi hi0 hn hn2 K0 K1
    have k4 := h4 (V 0 0) i h0 h1 hi0 (by omega)
    have st : 0 ≤ 100 * V 0 0 + i ∧ 100 * V 0 0 + i < 300 := by omega
    have r5 : M 58 (100 * V 0 0 + i) = V 5 (100 * V 0 0 + i) := hv.2 5 _ (by omega) (by omega) st.1 (by show _ < (300 : Int); omega)
    have r6 : M 59 (100 * V 0 0 + i) = V 6 (100 * V 0 0 + i) := hv.2 6 _ (by omega) (by omega) st.1 (by show _ < (300 : Int); omega)
    have r8 : M 61 (100 * V 0 0 + i) = V 8 (100 * V 0 0 + i) := hv.2 8 _ (by omega) (by omega) st.1 (by show _ < (300 : Int); omega)
    unfold v_redo at K0 K1
    refine s172_4 ?_
    rw [e0, r3, r4, r5, r6, r8]
    refine ⟨⟨h0, h1⟩, ⟨⟨by omega, by omega⟩, ⟨by omega, by omega⟩⟩, fun h => by omega, fun _ => ⟨st, ⟨h0, h1⟩, ⟨⟨by omega, by omega⟩, ⟨by omega, by omega⟩⟩, fun hne => ?_, fun he => ⟨⟨by omega, by omega⟩, fun hn0 => ?_, fun hn0 => ?_⟩⟩⟩
    · rw [if_neg hne] at K0 K1
      exact ih n (i + 1) (by omega) (by omega) hn hn2 K0 K1
    · rw [if_pos he, if_neg hn0] at K0 K1
      exact ih (n - 1) (i + 1) (by omega) (by omega) (by omega) (by omega) K0 K1
    · rw [if_pos he, if_pos hn0] at K0
      dsimp only at K0
      exact ⟨st, st, ⟨by omega, by omega⟩, ⟨h0, h1⟩, K0 rfl _ (cpv_up (i := 4) (cpv_up (i := 1) hv (by omega) (by omega)) (by omega) (by omega)) (pv_ok_move hvo2 (by omega) (by omega) (by omega)) (fun b j hb => by rw [fx_up_na (by omega), fx_up_na (by omega)])⟩
/-- redo -/
theorem sp_predo {n : Int} (hv : cpv M V) (hvo : pv_ok V) (hn : 0 ≤ n ∧ n < 1000) (K0 : (v_redo V (V 3 (V 0 0)).toNat n 0).1 = 0 → ∀ M', cpv M' (v_redo V (V 3 (V 0 0)).toNat n 0).2 → pv_ok (v_redo V (V 3 (V 0 0)).toNat n 0).2 → (∀ b j, ¬ (54 ≤ b ∧ b ≤ 61) → M' b j = M b j) → Q (some (jR 1000127)) M') (K1 : (v_redo V (V 3 (V 0 0)).toNat n 0).1 = 1 → Q (some (jR 1000141)) M) : wc (kcs L xs) (d + 1) 172 [jR 53, jI n] M Q := by
  have w3 := hvo.2.2.2.1 (V 0 0) hvo.1 hvo.2.1
  exact s172 (redo_loop hv hvo (V 3 (V 0 0)).toNat n 0 (by omega) (by omega) hn.1 hn.2 K0 K1)
end MOV
