/-! PLAY: persons and marks, both sides. -/
/-- texts of marks: 1 no cell, 2 given, 3 no symbol, 6 on, 7 off -/
def t_mk (r : Int) : List Int := if r = 1 then t_rf 2 else if r = 2 then wls 444150998382 else if r = 3 then t_rf 5 else if r = 6 then [111, 110] else [111, 102, 102]
/-- the marks of a cell as text -/
def t_mks (V : fx_M) (Z : PZ) (c : Int) : List Int := if c < Z.1 * Z.2.1 then ((List.range 4).flatMap fun (s : Nat) => if mbit (V 2 (9 * V 0 0 + c)) s = 0 then [] else [48 + (s : Int)]) ++ [46] else t_rf 2
/-- marks and entries are of the puzzle -/
def pv_in (V : fx_M) (Z : PZ) : Prop := ∀ (w : Int) (c : Nat), 0 ≤ w → w < 3 → c < 9 → (∀ s : Nat, s < 4 → Z.2.2.1 ≤ s → mbit (V 2 (9 * w + c)) s = 0) ∧ (0 ≤ V 1 (9 * w + c) → (c : Int) < Z.1 * Z.2.1 ∧ Z.2.2.2.2.getD c (-1) < 0 ∧ V 1 (9 * w + c) < Z.2.2.1)
section PRS
variable {L : Nat} {xs : Nat → Int32} {kc : List va_E} {d p o : Nat} {M V : fx_M} {Q : Option fx_V → fx_M → Prop} {Z : PZ}
/-- sayMark -/
theorem sp_sayMark {c s : Int} (hz : mz M 0 Z) (ho : pz_ok Z) (hv : mpv M V) (hvo : pv_ok V) (hO : m_ok M) (hc : 0 ≤ c ∧ c < 1000) (hs : 0 ≤ s ∧ s < 1000) (K : ∀ N, mpv N (v_mark V Z c s).2 → (∀ b j, ¬ (174 ≤ b ∧ b ≤ 181) → N b j = M b j) → Q none (m_app N (t_mk (v_mark V Z c s).1))) : wc kc (d + 6) 329 [jR 133, jI c, jI s] M Q := by
  have h9 := pz_n ho
  have o5 := ho.2.2.2.2.1
  have o6 := ho.2.2.2.2.2.1
  obtain ⟨h0, h1, h2, h3, h4⟩ := hvo
  have e0 : M 133 80 = V 0 0 := hv.1
  have z0 := hz.1
  have z1 := hz.2.1
  have z2 := hz.2.2.1
  unfold v_mark v_ref at K
  refine s329 (s241 ?_)
  rw [z0, z1]
  refine ⟨⟨by omega, by omega⟩, fun _ => by omega, fun _ => by omega, fun _ => ⟨by omega, by omega⟩, fun _ => ⟨by omega, by omega⟩, ⟨by (repeat' split) <;> omega, by (repeat' split) <;> omega⟩, ?_⟩
  by_cases hcn : c < Z.1 * Z.2.1
  · rw [if_neg (by omega), if_pos hcn]
    rw [if_pos hcn] at K
    have hg := hz.2.2.2.2.2 c.toNat (by omega)
    rw [show 9 * (0 : Int) + ((c.toNat : Nat) : Int) = c by omega] at hg
    have hgb := giv_b ho (c := c.toNat) (by omega)
    refine s329_6 ⟨i01.2, fun _ => s271 ⟨⟨by omega, by omega⟩, ?_⟩, fun h => absurd h (by decide)⟩
    rw [hg]
    have pl : 0 ≤ 9 * V 0 0 + c ∧ 9 * V 0 0 + c < 27 := by omega
    have r2 : M 175 (9 * V 0 0 + c) = V 2 (9 * V 0 0 + c) := hv.2 2 _ (by omega) (by omega) pl.1 (by show _ < (27 : Int); omega)
    have b1 := h2 (9 * V 0 0 + c) (by omega) (by omega)
    refine s329_22 ?_
    rw [e0, z2, r2]
    refine ⟨⟨by omega, by omega⟩, fun hgn => ⟨⟨⟨by omega, by omega⟩, ⟨by omega, by omega⟩⟩, fun hs1 => ⟨pl, pl, pl, ?_, ?_⟩, fun hs1 => ?_⟩, fun hgp => ?_⟩
    · have hb2 := mark_b (m := V 2 (9 * V 0 0 + c)) (s := s) (by omega) (by omega)
      have hb3 := mark_b (m := mxor (V 2 (9 * V 0 0 + c)) s) (s := s) ⟨hb2.1, hb2.2.1⟩ (by omega)
      show fx_in32 (mbit (mxor (V 2 (9 * V 0 0 + c)) s) s)
      exact ⟨by omega, by omega⟩
    · have hb2 := mark_b (m := V 2 (9 * V 0 0 + c)) (s := s) (by omega) (by omega)
      have hb3 := mark_b (m := mxor (V 2 (9 * V 0 0 + c)) s) (s := s) ⟨hb2.1, hb2.2.1⟩ (by omega)
      rw [if_pos hgn, if_pos hs1, if_pos rfl] at K
      dsimp only at K
      show wc kc (d + 5) 253 [jR 133, jL (if mbit (mxor (V 2 (9 * V 0 0 + c)) s) s = 1 then (28526 : Int) else 7300710)] (fx_up M 175 (9 * V 0 0 + c) (mxor (V 2 (9 * V 0 0 + c)) s)) _
      have hv2 : mpv (fx_up M 175 (9 * V 0 0 + c) (mxor (V 2 (9 * V 0 0 + c)) s)) (fx_up V 2 (9 * V 0 0 + c) (mxor (V 2 (9 * V 0 0 + c)) s)) := mpv_up (i := 2) hv (by omega) (by omega)
      have k2 := K _ hv2 (fun b j hb => fx_up_na (by omega))
      have hO2 : m_ok (fx_up M 175 (9 * V 0 0 + c) (mxor (V 2 (9 * V 0 0 + c)) s)) := by
        unfold m_ok
        rw [fx_up_na (by decide)]
        exact hO
      generalize (fx_up M 175 (9 * V 0 0 + c) (mxor (V 2 (9 * V 0 0 + c)) s)) = N at k2 hO2
      by_cases hb : mbit (mxor (V 2 (9 * V 0 0 + c)) s) s = 0
      · rw [if_pos hb] at k2
        rw [if_neg (by omega)]
        refine sp_sayWord (by unfold w_ok; omega) hO2 (s329_120 ?_)
        rw [show wls 7300710 = t_mk 7 by decide +kernel]
        exact k2
      · rw [if_neg hb] at k2
        rw [if_pos (by omega)]
        refine sp_sayWord (by unfold w_ok; omega) hO2 (s329_120 ?_)
        rw [show wls 28526 = t_mk 6 by decide +kernel]
        exact k2
    · rw [if_pos hgn, if_neg (show ¬ s < Z.2.2.1 by omega), if_neg (show ¬ (3 : Int) = 0 by decide)] at K
      exact sp_sayRefusal ⟨by omega, by omega⟩ hO (s329_50 (K M hv (fun _ _ _ => rfl)))
    · rw [if_neg (show ¬ Z.2.2.2.2.getD c.toNat (-1) < 0 by omega), if_neg (show ¬ (2 : Int) = 0 by decide)] at K
      exact sp_sayWord (by unfold w_ok; omega) hO (s329_32 (K M hv (fun _ _ _ => rfl)))
  · rw [if_neg (by omega), if_neg hcn]
    rw [if_neg hcn, if_neg (show ¬ (1 : Int) = 0 by decide)] at K
    exact s329_6 ⟨i01.1, fun h => absurd rfl h, fun _ => sp_sayRefusal ⟨by omega, by omega⟩ hO (s329_14 (K M hv (fun _ _ _ => rfl)))⟩
theorem mks_loop {c : Int} (Hp : fx_puz p) (Ho : fx_out o) (hvo : pv_ok V) (hc : 0 ≤ c ∧ c < 9) : ∀ (t s : Nat) (M : fx_M), s + t = 4 → cpv M V → o_ok M o → Q none (o_app M o (((List.range' s t).flatMap fun (s : Nat) => if mbit (V 2 (9 * V 0 0 + c)) s = 0 then [] else [48 + (s : Int)]) ++ [46])) → wp (kcs L xs) (d + 2) 175 18 [some (jR 53), none, some (jI c), some (jR o), some (jI s)] [] M Q := by
  obtain ⟨h0, h1, h2, h3, h4⟩ := hvo
  have ho5 : o ≤ 5 := by
    unfold fx_out at Ho
    simp at Ho
    omega
  intro t
  induction t with
  | zero =>
    intro s M hs hv hO K
    refine s175_18 Hp Ho ⟨⟨by omega, by omega⟩, fun _ => sp_put Ho hO (by omega) (s175_64 Hp Ho K), fun h => by omega⟩
  | succ t ih =>
    intro s M hs hv hO K
    have pl : 0 ≤ 9 * V 0 0 + c ∧ 9 * V 0 0 + c < 27 := by omega
    have r2 : M 55 (9 * V 0 0 + c) = V 2 (9 * V 0 0 + c) := hv.2 2 _ (by omega) (by omega) pl.1 (by show _ < (27 : Int); omega)
    have b1 := h2 (9 * V 0 0 + c) (by omega) (by omega)
    have hb := mark_b (m := V 2 (9 * V 0 0 + c)) (s := (s : Int)) (by omega) (by omega)
    have e1 : ((s + 1 : Nat) : Int) = (s : Int) + 1 := by omega
    rw [List.range'_succ, List.flatMap_cons, List.append_assoc] at K
    refine s175_18 Hp Ho ?_
    rw [hv.1, r2]
    refine ⟨⟨by omega, by omega⟩, fun h => by omega, fun _ => ⟨pl, ⟨?_, ?_⟩, fun hb0 => ?_, fun hb1 => ?_⟩⟩
    · show -2147483648 ≤ mbit (V 2 (9 * V 0 0 + c)) s
      omega
    · show mbit (V 2 (9 * V 0 0 + c)) s ≤ 2147483647
      omega
    · have hb0 : mbit (V 2 (9 * V 0 0 + c)) s = 0 := hb0
      rw [if_pos hb0, List.nil_append] at K
      have := ih (s + 1) M (by omega) hv hO K
      rw [e1] at this
      exact this
    · have hb1 : ¬ mbit (V 2 (9 * V 0 0 + c)) s = 0 := hb1
      rw [if_neg hb1] at K
      refine sp_number Ho hO (by omega) (by omega) (s175_52 Hp Ho ?_)
      rw [dgs_1 (by omega)]
      have := ih (s + 1) (o_app M o [48 + (s : Int)]) (by omega) (cpv_fr hv (fun b j b1 b2 => o_app_ne (by omega) (by omega))) (o_ok_app hO) (by
        rw [o_app_app]
        exact K)
      rw [e1] at this
      exact this
/-- writeMarks -/
theorem sp_pmarks {c : Int} (Hp : fx_puz p) (Ho : fx_out o) (hz : cz M p Z) (ho : pz_ok Z) (hv : cpv M V) (hvo : pv_ok V) (hO : o_ok M o) (hc : 0 ≤ c ∧ c < 1000) (K : Q none (o_app M o (t_mks V Z c))) : wc (kcs L xs) (d + 5) 175 [jR 53, jR p, jI c, jR o] M Q := by
  have h9 := pz_n ho
  unfold t_mks at K
  refine s175 Hp Ho ?_
  rw [hz.2.2.1]
  refine ⟨⟨⟨by omega, by omega⟩, ⟨by omega, by omega⟩⟩, fun h => ?_, fun h => ?_⟩
  · rw [if_pos h] at K
    exact mks_loop Hp Ho hvo (by omega) 4 0 M (by omega) hv hO (by rw [← List.range_eq_range']; exact K)
  · rw [if_neg (by omega)] at K
    refine sp_puts Ho lt_1000129 hO (s175_14 Hp Ho ?_)
    exact K
theorem mmks_loop {c : Int} (hvo : pv_ok V) (ho : pz_ok Z) (hc : 0 ≤ c ∧ c < 9) : ∀ (t s : Nat) (M : fx_M), (s : Int) + t = Z.2.2.1 → M 148 0 = Z.2.2.1 → mpv M V → m_ok M → Q none (m_app M (((List.range' s t).flatMap fun (s : Nat) => if mbit (V 2 (9 * V 0 0 + c)) s = 0 then [] else [48 + (s : Int)]) ++ [46])) → wp kc (d + 2) 330 17 [some (jR 133), some (jI c), some (jI s)] [] M Q := by
  obtain ⟨h0, h1, h2, h3, h4⟩ := hvo
  have o5 := ho.2.2.2.2.1
  have o6 := ho.2.2.2.2.2.1
  intro t
  induction t with
  | zero =>
    intro s M hs hz hv hO K
    refine s330_17 ?_
    rw [hz]
    exact ⟨⟨⟨by omega, by omega⟩, ⟨by omega, by omega⟩⟩, fun _ => sp_sayByte hO (s330_69 K), fun h => by omega⟩
  | succ t ih =>
    intro s M hs hz hv hO K
    have pl : 0 ≤ 9 * V 0 0 + c ∧ 9 * V 0 0 + c < 27 := by omega
    have r2 : M 175 (9 * V 0 0 + c) = V 2 (9 * V 0 0 + c) := hv.2 2 _ (by omega) (by omega) pl.1 (by show _ < (27 : Int); omega)
    have b1 := h2 (9 * V 0 0 + c) (by omega) (by omega)
    have hb := mark_b (m := V 2 (9 * V 0 0 + c)) (s := (s : Int)) (by omega) (by omega)
    have e1 : ((s + 1 : Nat) : Int) = (s : Int) + 1 := by omega
    rw [List.range'_succ, List.flatMap_cons, List.append_assoc] at K
    refine s330_17 ?_
    rw [hv.1, r2, hz]
    refine ⟨⟨⟨by omega, by omega⟩, ⟨by omega, by omega⟩⟩, fun h => by omega, fun _ => ⟨pl, ⟨?_, ?_⟩, fun hb0 => ?_, fun hb1 => ?_⟩⟩
    · show -2147483648 ≤ mbit (V 2 (9 * V 0 0 + c)) s
      omega
    · show mbit (V 2 (9 * V 0 0 + c)) s ≤ 2147483647
      omega
    · have hb0 : mbit (V 2 (9 * V 0 0 + c)) s ≠ 1 := hb0
      rw [if_pos (by omega), List.nil_append] at K
      have := ih (s + 1) M (by omega) hz hv hO K
      rw [e1] at this
      exact this
    · have hb1 : mbit (V 2 (9 * V 0 0 + c)) s = 1 := hb1
      rw [if_neg (by omega)] at K
      refine sp_sayByte hO (s330_57 ?_)
      have := ih (s + 1) (m_app M [48 + (s : Int)]) (by omega) (by rw [m_app_ne (by omega) (by decide)]; exact hz) (mpv_fr hv (m_app_ne (by omega) (by decide)) (fun b j b1 b2 => m_app_ne (by omega) (by omega))) (m_ok_app hO) (by
        rw [m_app_app]
        exact K)
      rw [e1] at this
      exact this
theorem mks_cut {c : Int} (ho : pz_ok Z) (hvo : pv_ok V) (hi : pv_in V Z) (hc : 0 ≤ c ∧ c < 9) : ((List.range Z.2.2.1.toNat).flatMap fun (s : Nat) => if mbit (V 2 (9 * V 0 0 + c)) s = 0 then [] else [48 + (s : Int)]) = (List.range 4).flatMap fun (s : Nat) => if mbit (V 2 (9 * V 0 0 + c)) s = 0 then [] else [48 + (s : Int)] := by
  have o5 := ho.2.2.2.2.1
  have o6 := ho.2.2.2.2.2.1
  have hh := (hi (V 0 0) c.toNat hvo.1 hvo.2.1 (by omega)).1
  rw [show ((c.toNat : Nat) : Int) = c by omega] at hh
  have e : List.range 4 = List.range Z.2.2.1.toNat ++ (List.range (4 - Z.2.2.1.toNat)).map (Z.2.2.1.toNat + ·) := by
    rw [← List.range_add, show Z.2.2.1.toNat + (4 - Z.2.2.1.toNat) = 4 by omega]
  rw [e, List.flatMap_append]
  have : ((List.range (4 - Z.2.2.1.toNat)).map (Z.2.2.1.toNat + ·)).flatMap (fun (s : Nat) => if mbit (V 2 (9 * V 0 0 + c)) s = 0 then [] else [48 + (s : Int)]) = [] := by
    rw [List.flatMap_eq_nil_iff]
    intro s hs
    rw [List.mem_map] at hs
    obtain ⟨a, ha, rfl⟩ := hs
    rw [List.mem_range] at ha
    rw [if_pos (hh _ (by omega) (by omega))]
  rw [this, List.append_nil]
/-- sayMarks -/
theorem sp_sayMarks {c : Int} (hz : mz M 0 Z) (ho : pz_ok Z) (hv : mpv M V) (hvo : pv_ok V) (hi : pv_in V Z) (hO : m_ok M) (hc : 0 ≤ c ∧ c < 1000) (K : Q none (m_app M (t_mks V Z c))) : wc kc (d + 6) 330 [jR 133, jI c] M Q := by
  have h9 := pz_n ho
  have o5 := ho.2.2.2.2.1
  have o6 := ho.2.2.2.2.2.1
  have z0 := hz.1
  have z1 := hz.2.1
  unfold t_mks at K
  refine s330 (s241 ?_)
  rw [z0, z1]
  refine ⟨⟨by omega, by omega⟩, fun _ => by omega, fun _ => by omega, fun _ => ⟨by omega, by omega⟩, fun _ => ⟨by omega, by omega⟩, ⟨by (repeat' split) <;> omega, by (repeat' split) <;> omega⟩, ?_⟩
  by_cases hcn : c < Z.1 * Z.2.1
  · rw [if_neg (by omega), if_pos hcn]
    rw [if_pos hcn, ← mks_cut ho hvo hi (by omega)] at K
    exact s330_6 ⟨i01.2, fun _ => mmks_loop hvo ho (by omega) Z.2.2.1.toNat 0 M (by omega) hz.2.2.1 hv hO (by rw [← List.range_eq_range']; exact K), fun h => absurd h (by decide)⟩
  · rw [if_neg (by omega), if_neg hcn]
    rw [if_neg hcn] at K
    exact s330_6 ⟨i01.1, fun h => absurd rfl h, fun _ => sp_sayRefusal ⟨by omega, by omega⟩ hO (s330_14 K)⟩
/-- persons -/
def v_who (V : fx_M) (w : Int) : Int × fx_M := if w < 3 then (0, fx_up V 0 0 w) else (1, V)
def t_who (r : Int) : List Int := if r = 0 then t_ok else t_no (wrd 25)
theorem pv_ok_who {w : Int} (h : pv_ok V) (hw : 0 ≤ w) : pv_ok (v_who V w).2 := by
  unfold v_who
  split
  · next h3 =>
    obtain ⟨h0, h1, h2, h3', h4⟩ := h
    have f : ∀ (i : Nat) (j : Int), i ≠ 0 → (fx_up V 0 0 w) i j = V i j := fun i j hi => fx_up_na hi
    show pv_ok (fx_up V 0 0 w)
    refine ⟨by rw [fx_up_self]; exact hw, by rw [fx_up_self]; exact h3, fun j j0 j1 => by rw [f _ _ (by decide), f _ _ (by decide)]; exact h2 j j0 j1, fun w w0 w1 => by rw [f _ _ (by decide), f _ _ (by decide)]; exact h3' w w0 w1, fun w k w0 w1 k0 k1 => ?_⟩
    rw [f _ _ (by decide)] at k1
    rw [f _ _ (by decide), f _ _ (by decide), f _ _ (by decide), f _ _ (by decide)]
    exact h4 w k w0 w1 k0 k1
  · exact h
theorem cpv_who {w : Int} (h : cpv M V) : cpv (fx_up M 53 0 w) (fx_up V 0 0 w) := ⟨by rw [fx_up_self, fx_up_self], fun i j i1 i8 j0 j1 => by
  rw [fx_up_na (by omega), fx_up_na (by omega)]
  exact h.2 i j i1 i8 j0 j1⟩
theorem mpv_who {w : Int} (h : mpv M V) : mpv (fx_up M 133 80 w) (fx_up V 0 0 w) := ⟨by rw [fx_up_self, fx_up_self], fun i j i1 i8 j0 j1 => by
  have := pvM_b i1 i8
  rw [fx_up_na (by omega), fx_up_na (by omega)]
  exact h.2 i j i1 i8 j0 j1⟩
/-- enter -/
theorem sp_enter {w : Int} (hv : cpv M V) (hw : 0 ≤ w ∧ w < 1000) (K : ∀ a M', ((v_who V w).1 = 0 ∧ a = 1000127) ∨ ((v_who V w).1 = 1 ∧ a = 1000125) → cpv M' (v_who V w).2 → (∀ b j, b ≠ 53 → M' b j = M b j) → Q (some (jR a)) M') : wc kc (d + 1) 168 [jR 53, jI w] M Q := by
  unfold v_who at K
  refine s168 ⟨⟨by omega, by omega⟩, fun h => ?_, fun h => ?_⟩
  · rw [if_pos h] at K
    exact K _ _ (Or.inl ⟨rfl, rfl⟩) (cpv_who hv) (fun b j hb => fx_up_na hb)
  · rw [if_neg (by omega)] at K
    exact K _ _ (Or.inr ⟨rfl, rfl⟩) hv (fun b j hb => rfl)
/-- sayPerson -/
theorem sp_sayPerson {w : Int} (hv : mpv M V) (hO : m_ok M) (hw : 0 ≤ w ∧ w < 1000) (K : ∀ N, mpv N (v_who V w).2 → (∀ b j, ¬ (b = 133 ∧ j = 80) → N b j = M b j) → Q none (m_app N (t_who (v_who V w).1))) : wc kc (d + 6) 324 [jR 133, jI w] M Q := by
  unfold v_who at K
  refine s324 ⟨⟨by omega, by omega⟩, fun h => ?_, fun h => ?_⟩
  · rw [if_pos h] at K
    refine sp_sayOk (by unfold m_ok; rw [fx_up_nk (by decide)]; exact hO) (s324_24 (K _ (mpv_who hv) (fun b j hb => fx_up_ne hb)))
  · rw [if_neg (by omega)] at K
    exact sp_word (by omega) (by omega) (s324_11 (sp_sayNo (wrd_ok (by omega) (by omega)) hO (s324_14 (K _ hv (fun b j hb => rfl)))))
end PRS
