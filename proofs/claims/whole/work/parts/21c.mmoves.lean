/-! PLAY: the reference's moves. -/
theorem up_comm {M : fx_M} {a b : Nat} {k l v w : Int} (h : a ≠ b) : fx_up (fx_up M a k v) b l w = fx_up (fx_up M b l w) a k v := by
  funext c j
  by_cases h1 : c = b ∧ j = l
  · obtain ⟨rfl, rfl⟩ := h1
    rw [fx_up_self, fx_up_na (by omega), fx_up_self]
  · rw [fx_up_ne h1]
    by_cases h2 : c = a ∧ j = k
    · obtain ⟨rfl, rfl⟩ := h2
      rw [fx_up_self, fx_up_self]
    · rw [fx_up_ne h2, fx_up_ne h2, fx_up_ne h1]
def t_ok : List Int := [111, 107]
def t_no (w : Int) : List Int := [110, 111, 32] ++ wls w
/-- texts of refusals: 1 no size, 2 no cell, 3 no number, 4 no room, 5 no symbol; else ok -/
def t_rf (r : Int) : List Int := if r = 1 then t_no 1936292453 else if r = 2 then t_no 1667591276 else if r = 3 then t_no 121450625394034 else if r = 4 then t_no 1919905645 else if r = 5 then t_no 126965363404652 else t_ok
/-- texts of put: 0 ok, 1 no cell, 2 given, 3 no symbol, 4 same, 5 no room -/
def t_pt (r : Int) : List Int := if r = 0 then t_ok else if r = 1 then t_rf 2 else if r = 2 then wls 444150998382 else if r = 3 then t_rf 5 else if r = 4 then wls 1935764837 else t_rf 4
section MMV
variable {kc : List va_E} {d : Nat} {M V : fx_M} {Q : Option fx_V → fx_M → Prop} {Z : PZ}
theorem sp_sayOk (hO : m_ok M) (K : Q none (m_app M t_ok)) : wc kc (d + 4) 261 [jR 133] M Q := by
  have e : wls 28523 = [111, 107] := by decide +kernel
  refine s261 (sp_sayWord (by unfold w_ok; omega) hO (s261_7 ?_))
  rw [e]
  exact K
theorem sp_sayNo {w : Int} (hw : w_ok w) (hO : m_ok M) (K : Q none (m_app M (t_no w))) : wc kc (d + 4) 260 [jR 133, jL w] M Q := by
  have e : wls 28271 = [110, 111] := by decide +kernel
  refine s260 (sp_sayWord (by unfold w_ok; omega) hO (s260_7 (sp_sayByte (m_ok_app hO) ?_)))
  show wp kc (d + 4) 260 13 [some (jR 133), some (jL w), none] [] (m_app (m_app M (wls 28271)) [32]) Q
  rw [m_app_app, e]
  refine s260_13 (sp_sayWord hw (m_ok_app hO) (s260_18 ?_))
  rw [m_app_app]
  exact K
theorem sp_sayRefusal {r : Int} (hr : fx_in32 r) (hO : m_ok M) (K : Q none (m_app M (t_rf r))) : wc kc (d + 5) 259 [jR 133, jI r] M Q := by
  unfold t_rf at K
  refine s259 ⟨hr, fun h => ?_, fun h => ?_, fun h => ?_, fun h => ?_, fun h => ?_, fun h => ?_⟩
  · subst h
    exact sp_sayNo (by unfold w_ok; omega) hO (s259_43 K)
  · subst h
    exact sp_sayNo (by unfold w_ok; omega) hO (s259_53 K)
  · subst h
    exact sp_sayNo (by unfold w_ok; omega) hO (s259_63 K)
  · subst h
    exact sp_sayNo (by unfold w_ok; omega) hO (s259_73 K)
  · subst h
    exact sp_sayNo (by unfold w_ok; omega) hO (s259_83 K)
  · rw [if_neg (by omega), if_neg (by omega), if_neg (by omega), if_neg (by omega), if_neg (by omega)] at K
    exact sp_sayOk hO (s259_90 K)
/-- sayPut -/
theorem sp_sayPut {c s : Int} (hz : mz M 0 Z) (ho : pz_ok Z) (hv : mpv M V) (hvo : pv_ok V) (hO : m_ok M) (hc : 0 ≤ c ∧ c < 1000) (hs : -1 ≤ s ∧ s < 1000) (K : ∀ N, mpv N (v_put V Z c s).2 → (∀ b j, ¬ (174 ≤ b ∧ b ≤ 181) → N b j = M b j) → Q none (m_app N (t_pt (v_put V Z c s).1))) : wc kc (d + 6) 325 [jR 133, jI c, jI s] M Q := by
  have h9 := pz_n ho
  have o5 := ho.2.2.2.2.1
  have o6 := ho.2.2.2.2.2.1
  obtain ⟨h0, h1, h2, h3, h4⟩ := hvo
  have w3 := h3 (V 0 0) h0 h1
  have e0 : M 133 80 = V 0 0 := hv.1
  have z0 := hz.1
  have z1 := hz.2.1
  have z2 := hz.2.2.1
  unfold v_put v_ref at K
  refine s325 (s241 ?_)
  rw [e0, z0, z1]
  refine ⟨⟨by omega, by omega⟩, fun _ => by omega, fun _ => by omega, fun _ => ⟨by omega, by omega⟩, fun _ => ⟨by omega, by omega⟩, ⟨by (repeat' split) <;> omega, by (repeat' split) <;> omega⟩, ?_⟩
  by_cases hcn : c < Z.1 * Z.2.1
  · rw [if_neg (by omega), if_pos hcn]
    rw [if_pos hcn] at K
    have hg := hz.2.2.2.2.2 c.toNat (by omega)
    rw [show 9 * (0 : Int) + ((c.toNat : Nat) : Int) = c by omega] at hg
    have hgb : -1 ≤ Z.2.2.2.2.getD c.toNat (-1) ∧ Z.2.2.2.2.getD c.toNat (-1) < 4 := by
      have h9l := ho.2.2.2.2.2.2.2.2.1
      have hlt : c.toNat < Z.2.2.2.2.length := by omega
      have hm : Z.2.2.2.2.getD c.toNat (-1) ∈ Z.2.2.2.2 := by
        rw [List.getD_eq_getElem?_getD, List.getElem?_eq_getElem hlt]
        exact List.getElem_mem hlt
      have := ho.2.2.2.2.2.2.2.2.2.1 _ hm
      omega
    refine s325_16 ⟨i01.2, fun _ => s271 ⟨⟨by omega, by omega⟩, ?_⟩, fun h => absurd h (by decide)⟩
    rw [hg]
    have pl : 0 ≤ 9 * V 0 0 + c ∧ 9 * V 0 0 + c < 27 := by omega
    have r1 : M 174 (9 * V 0 0 + c) = V 1 (9 * V 0 0 + c) := hv.2 1 _ (by omega) (by omega) (by omega) (by show _ < (27 : Int); omega)
    have r3 : M 176 (V 0 0) = V 3 (V 0 0) := hv.2 3 _ (by omega) (by omega) h0 (by show _ < (3 : Int); omega)
    have r4 : M 177 (V 0 0) = V 4 (V 0 0) := hv.2 4 _ (by omega) (by omega) h0 (by show _ < (3 : Int); omega)
    have b1 := h2 (9 * V 0 0 + c) (by omega) (by omega)
    refine s325_32 ?_
    rw [e0, z2, r1, r3, r4]
    refine ⟨⟨by omega, by omega⟩, fun hgn => ⟨⟨⟨by omega, by omega⟩, ⟨by omega, by omega⟩⟩, fun hs1 => ⟨pl, ⟨⟨by omega, by omega⟩, ⟨by omega, by omega⟩⟩, fun hne => ⟨⟨h0, h1⟩, ⟨by omega, by omega⟩, fun hlt => ?_, fun hge => ?_⟩, fun he => ?_⟩, fun hs1 => ?_⟩, fun hgp => ?_⟩
    · rw [if_pos hgn, if_pos hs1, if_pos rfl, if_neg hne, if_pos (by omega)] at K
      have st : 0 ≤ 100 * V 0 0 + V 3 (V 0 0) ∧ 100 * V 0 0 + V 3 (V 0 0) < 300 := by omega
      have eV : v_putV V c s = fx_up (fx_up (fx_up (fx_up (fx_up (fx_up (fx_up V 6 (100 * V 0 0 + V 3 (V 0 0)) c) 8 (100 * V 0 0 + V 3 (V 0 0)) s) 5 (100 * V 0 0 + V 3 (V 0 0)) (V 4 (V 0 0))) 7 (100 * V 0 0 + V 3 (V 0 0)) (V 1 (9 * V 0 0 + c))) 1 (9 * V 0 0 + c) s) 4 (V 0 0) (V 3 (V 0 0))) 3 (V 0 0) (V 3 (V 0 0) + 1) := by
        unfold v_putV
        rw [up_comm (a := 3) (b := 1) (by decide), up_comm (a := 4) (b := 1) (by decide)]
        rw [up_comm (M := fx_up (fx_up V 5 (100 * V 0 0 + V 3 (V 0 0)) (V 4 (V 0 0))) 6 (100 * V 0 0 + V 3 (V 0 0)) c) (a := 7) (b := 8) (by decide)]
        rw [up_comm (M := V) (a := 5) (b := 6) (by decide)]
        rw [up_comm (M := fx_up V 6 (100 * V 0 0 + V 3 (V 0 0)) c) (a := 5) (b := 8) (by decide)]
      have hM' := mpv_up (i := 3) (k := V 0 0) (v := V 3 (V 0 0) + 1) (mpv_up (i := 4) (k := V 0 0) (v := V 3 (V 0 0)) (mpv_up (i := 1) (k := 9 * V 0 0 + c) (v := s) (mpv_up (i := 7) (k := 100 * V 0 0 + V 3 (V 0 0)) (v := V 1 (9 * V 0 0 + c)) (mpv_up (i := 5) (k := 100 * V 0 0 + V 3 (V 0 0)) (v := V 4 (V 0 0)) (mpv_up (i := 8) (k := 100 * V 0 0 + V 3 (V 0 0)) (v := s) (mpv_up (i := 6) (k := 100 * V 0 0 + V 3 (V 0 0)) (v := c) hv (by omega) (by omega)) (by omega) (by omega)) (by omega) (by omega)) (by omega) (by omega)) (by omega) (by omega)) (by omega) (by omega)) (by omega) (by omega)
      rw [← eV] at hM'
      have fr : ∀ b j, ¬ (174 ≤ b ∧ b ≤ 181) → (fx_up (fx_up (fx_up (fx_up (fx_up (fx_up (fx_up M 178 (100 * V 0 0 + V 3 (V 0 0)) c) 179 (100 * V 0 0 + V 3 (V 0 0)) s) 180 (100 * V 0 0 + V 3 (V 0 0)) (V 4 (V 0 0))) 181 (100 * V 0 0 + V 3 (V 0 0)) (V 1 (9 * V 0 0 + c))) 174 (9 * V 0 0 + c) s) 177 (V 0 0) (V 3 (V 0 0))) 176 (V 0 0) (V 3 (V 0 0) + 1)) b j = M b j := fun b j hb => by
        rw [fx_up_na (by omega), fx_up_na (by omega), fx_up_na (by omega), fx_up_na (by omega), fx_up_na (by omega), fx_up_na (by omega), fx_up_na (by omega)]
      refine ⟨⟨h0, h1⟩, st, st, ⟨h0, h1⟩, st, pl, st, pl, ⟨h0, h1⟩, ⟨h0, h1⟩, ⟨h0, h1⟩, ⟨h0, h1⟩, sp_sayOk ?_ (s325_211 (K _ hM' fr))⟩
      unfold m_ok
      rw [fr 133 5 (by omega)]
      exact hO
    · rw [if_pos hgn, if_pos hs1, if_pos rfl, if_neg hne, if_neg (by omega)] at K
      exact sp_sayRefusal ⟨by omega, by omega⟩ hO (s325_102 (K M hv (fun _ _ _ => rfl)))
    · rw [if_pos hgn, if_pos hs1, if_pos rfl, if_pos he] at K
      exact sp_sayWord (by unfold w_ok; omega) hO (s325_80 (K M hv (fun _ _ _ => rfl)))
    · rw [if_pos hgn, if_neg (show ¬ s < Z.2.2.1 by omega), if_neg (show ¬ (3 : Int) = 0 by decide)] at K
      exact sp_sayRefusal ⟨by omega, by omega⟩ hO (s325_60 (K M hv (fun _ _ _ => rfl)))
    · rw [if_neg (show ¬ Z.2.2.2.2.getD c.toNat (-1) < 0 by omega), if_neg (show ¬ (2 : Int) = 0 by decide)] at K
      exact sp_sayWord (by unfold w_ok; omega) hO (s325_42 (K M hv (fun _ _ _ => rfl)))
  · rw [if_neg (by omega), if_neg hcn]
    rw [if_neg hcn, if_neg (show ¬ (1 : Int) = 0 by decide)] at K
    exact s325_16 ⟨i01.1, fun h => absurd rfl h, fun _ => sp_sayRefusal ⟨by omega, by omega⟩ hO (s325_24 (K M hv (fun _ _ _ => rfl)))⟩
/-- sayUndo -/
theorem sp_sayUndo (hv : mpv M V) (hvo : pv_ok V) (hO : m_ok M) (K0 : (v_undo V).1 = 0 → ∀ N, mpv N (v_undo V).2 → (∀ b j, ¬ (174 ≤ b ∧ b ≤ 181) → N b j = M b j) → Q none (m_app N t_ok)) (K1 : (v_undo V).1 = 1 → Q none (m_app M (t_no (wrd 14)))) : wc kc (d + 6) 326 [jR 133] M Q := by
  obtain ⟨h0, h1, h2, h3, h4⟩ := hvo
  have w3 := h3 (V 0 0) h0 h1
  have e0 : M 133 80 = V 0 0 := hv.1
  have r4 : M 177 (V 0 0) = V 4 (V 0 0) := hv.2 4 _ (by omega) (by omega) h0 (by show _ < (3 : Int); omega)
  unfold v_undo at K0 K1
  refine s326 ?_
  rw [e0, r4]
  refine ⟨⟨h0, h1⟩, ⟨by omega, by omega⟩, fun hp => ?_, fun hn => ?_⟩
  · rw [if_pos hp] at K0
    dsimp only at K0
    have k4 := h4 (V 0 0) (V 4 (V 0 0)) h0 h1 hp w3.2.2.2
    have st : 0 ≤ 100 * V 0 0 + V 4 (V 0 0) ∧ 100 * V 0 0 + V 4 (V 0 0) < 300 := by omega
    have r5 : M 180 (100 * V 0 0 + V 4 (V 0 0)) = V 5 (100 * V 0 0 + V 4 (V 0 0)) := hv.2 5 _ (by omega) (by omega) st.1 (by show _ < (300 : Int); omega)
    have r6 : M 178 (100 * V 0 0 + V 4 (V 0 0)) = V 6 (100 * V 0 0 + V 4 (V 0 0)) := hv.2 6 _ (by omega) (by omega) st.1 (by show _ < (300 : Int); omega)
    have r7 : M 181 (100 * V 0 0 + V 4 (V 0 0)) = V 7 (100 * V 0 0 + V 4 (V 0 0)) := hv.2 7 _ (by omega) (by omega) st.1 (by show _ < (300 : Int); omega)
    rw [r5, r6, r7]
    have fr : ∀ b j, ¬ (174 ≤ b ∧ b ≤ 181) → (fx_up (fx_up M 174 (9 * V 0 0 + V 6 (100 * V 0 0 + V 4 (V 0 0))) (V 7 (100 * V 0 0 + V 4 (V 0 0)))) 177 (V 0 0) (V 5 (100 * V 0 0 + V 4 (V 0 0)))) b j = M b j := fun b j hb => by rw [fx_up_na (by omega), fx_up_na (by omega)]
    refine ⟨⟨h0, h1⟩, st, st, ⟨by omega, by omega⟩, st, ⟨h0, h1⟩, sp_sayOk ?_ (s326_84 (K0 rfl _ (mpv_up (i := 4) (mpv_up (i := 1) hv (by omega) (by omega)) (by omega) (by omega)) fr))⟩
    unfold m_ok
    rw [fr 133 5 (by omega)]
    exact hO
  · rw [if_neg (by omega)] at K1
    exact sp_word (by omega) (by omega) (s326_18 (sp_sayNo (wrd_ok (by omega) (by omega)) hO (s326_21 (K1 rfl))))
theorem mredo_loop (hv : mpv M V) (hvo : pv_ok V) (hO : m_ok M) {n : Int} (hn : 0 ≤ n ∧ n < 1000) : ∀ (f : Nat) (m i : Int), i + f = V 3 (V 0 0) → 0 ≤ i → 0 ≤ m → m ≤ n → ((v_redo V f (n - m) i).1 = 0 → ∀ N, mpv N (v_redo V f (n - m) i).2 → (∀ b j, ¬ (174 ≤ b ∧ b ≤ 181) → N b j = M b j) → Q none (m_app N t_ok)) → ((v_redo V f (n - m) i).1 = 1 → Q none (m_app M (t_no (wrd 14)))) → wp kc (d + 6) 327 4 [some (jR 133), some (jI n), some (jI m), some (jI i), none] [] M Q := by
  obtain ⟨h0, h1, h2, h3, h4⟩ := hvo
  have w3 := h3 (V 0 0) h0 h1
  have e0 : M 133 80 = V 0 0 := hv.1
  have r3 : M 176 (V 0 0) = V 3 (V 0 0) := hv.2 3 _ (by omega) (by omega) h0 (by show _ < (3 : Int); omega)
  have r4 : M 177 (V 0 0) = V 4 (V 0 0) := hv.2 4 _ (by omega) (by omega) h0 (by show _ < (3 : Int); omega)
  intro f
  induction f with
  | zero =>
    intro m i hi hi0 hm hmn K0 K1
    refine s327_4 ?_
    rw [e0, r3]
    exact ⟨⟨h0, h1⟩, ⟨⟨by omega, by omega⟩, ⟨by omega, by omega⟩⟩, fun _ => sp_word (by omega) (by omega) (s327_112 (sp_sayNo (wrd_ok (by omega) (by omega)) hO (s327_115 (K1 rfl)))), fun h => by omega⟩
  | succ f ih =>
    intro m i hi hi0 hm hmn K0 K1
    have k4 := h4 (V 0 0) i h0 h1 hi0 (by omega)
    have st : 0 ≤ 100 * V 0 0 + i ∧ 100 * V 0 0 + i < 300 := by omega
    have r5 : M 180 (100 * V 0 0 + i) = V 5 (100 * V 0 0 + i) := hv.2 5 _ (by omega) (by omega) st.1 (by show _ < (300 : Int); omega)
    have r6 : M 178 (100 * V 0 0 + i) = V 6 (100 * V 0 0 + i) := hv.2 6 _ (by omega) (by omega) st.1 (by show _ < (300 : Int); omega)
    have r8 : M 179 (100 * V 0 0 + i) = V 8 (100 * V 0 0 + i) := hv.2 8 _ (by omega) (by omega) st.1 (by show _ < (300 : Int); omega)
    unfold v_redo at K0 K1
    refine s327_4 ?_
    rw [e0, r3, r4, r5, r6, r8]
    refine ⟨⟨h0, h1⟩, ⟨⟨by omega, by omega⟩, ⟨by omega, by omega⟩⟩, fun h => by omega, fun _ => ⟨st, ⟨h0, h1⟩, ⟨⟨by omega, by omega⟩, ⟨by omega, by omega⟩⟩, fun he => ⟨⟨⟨by omega, by omega⟩, ⟨by omega, by omega⟩⟩, fun hne => ?_, fun hmn0 => ?_⟩, fun hne => ?_⟩⟩
    · rw [if_pos he, if_neg (by omega), show n - m - 1 = n - (m + 1) by omega] at K0 K1
      exact ih (m + 1) (i + 1) (by omega) (by omega) (by omega) (by omega) K0 K1
    · rw [if_pos he, if_pos (by omega)] at K0
      dsimp only at K0
      have fr : ∀ b j, ¬ (174 ≤ b ∧ b ≤ 181) → (fx_up (fx_up M 174 (9 * V 0 0 + V 6 (100 * V 0 0 + i)) (V 8 (100 * V 0 0 + i))) 177 (V 0 0) i) b j = M b j := fun b j hb => by rw [fx_up_na (by omega), fx_up_na (by omega)]
      refine ⟨st, st, ⟨by omega, by omega⟩, ⟨h0, h1⟩, sp_sayOk ?_ (s327_96 (K0 rfl _ (mpv_up (i := 4) (mpv_up (i := 1) hv (by omega) (by omega)) (by omega) (by omega)) fr))⟩
      unfold m_ok
      rw [fr 133 5 (by omega)]
      exact hO
    · rw [if_neg hne] at K0 K1
      exact ih m (i + 1) (by omega) (by omega) hm hmn K0 K1
/-- sayRedo -/
theorem sp_sayRedo {n : Int} (hv : mpv M V) (hvo : pv_ok V) (hO : m_ok M) (hn : 0 ≤ n ∧ n < 1000) (K0 : (v_redo V (V 3 (V 0 0)).toNat n 0).1 = 0 → ∀ N, mpv N (v_redo V (V 3 (V 0 0)).toNat n 0).2 → (∀ b j, ¬ (174 ≤ b ∧ b ≤ 181) → N b j = M b j) → Q none (m_app N t_ok)) (K1 : (v_redo V (V 3 (V 0 0)).toNat n 0).1 = 1 → Q none (m_app M (t_no (wrd 14)))) : wc kc (d + 6) 327 [jR 133, jI n] M Q := by
  have w3 := hvo.2.2.2.1 (V 0 0) hvo.1 hvo.2.1
  refine s327 (mredo_loop hv hvo hO hn (V 3 (V 0 0)).toNat 0 0 (by omega) (by omega) (by omega) (by omega) ?_ ?_)
  · rw [show n - 0 = n by omega]
    exact K0
  · rw [show n - 0 = n by omega]
    exact K1
end MMV
