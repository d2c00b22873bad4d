/-! PUZZLES: give, drop; the reference's begin and give. -/
def z_give (Z : PZ) (c s : Int) : PZ := (Z.1, Z.2.1, Z.2.2.1, Z.2.2.2.1, Z.2.2.2.2.set c.toNat s)
def z_drop (Z : PZ) : PZ := (Z.1, Z.2.1, Z.2.2.1, Z.2.2.2.1.dropLast, Z.2.2.2.2)
theorem getD_set {l : List Int} {c k : Nat} {s : Int} (hc : c < l.length) : (l.set c s).getD k (-1) = if k = c then s else l.getD k (-1) := by
  rw [List.getD_eq_getElem?_getD, List.getD_eq_getElem?_getD]
  by_cases h : k = c
  · subst h
    rw [List.getElem?_set_self hc, if_pos rfl]
    rfl
  · rw [List.getElem?_set_ne (fun hx => h hx.symm), if_neg h]
theorem z_give_ok {Z : PZ} {c s : Int} (h : pz_ok Z) (hc : 0 ≤ c ∧ c < Z.1 * Z.2.1) (hs : -1 ≤ s ∧ s < Z.2.2.1) : pz_ok (z_give Z c s) := by
  have hn := pz_n h
  obtain ⟨h1, h2, h3, h4, h5, h6, h7, h8, h9, h10, h11⟩ := h
  refine ⟨h1, h2, h3, h4, h5, h6, h7, h8, by rw [← h9]; exact List.length_set, fun x hx => ?_, fun k hk => ?_⟩
  · rcases List.mem_or_eq_of_mem_set hx with hx | hx
    · exact h10 x hx
    · subst hx
      exact hs
  · show (Z.2.2.2.2.set c.toNat s).getD k (-1) = -1
    have hk : Z.1 * Z.2.1 ≤ (k : Int) := hk
    rw [getD_set (by omega), if_neg (by omega)]
    exact h11 k hk
theorem z_drop_ok {Z : PZ} (h : pz_ok Z) : pz_ok (z_drop Z) := by
  obtain ⟨h1, h2, h3, h4, h5, h6, h7, h8, h9, h10, h11⟩ := h
  refine ⟨h1, h2, h3, h4, h5, h6, ?_, fun R hR => h8 R (List.dropLast_subset _ hR), h9, h10, h11⟩
  show (Z.2.2.2.1.dropLast).length ≤ 12
  rw [List.length_dropLast]
  omega
section PZG
variable {kc : List va_E} {d p : Nat} {M : fx_M} {Q : Option fx_V → fx_M → Prop} {Z : PZ}
theorem cz_give {c s : Int} (hz : cz M p Z) (hl : Z.2.2.2.2.length = 9) (hc : 0 ≤ c ∧ c < 9) : cz (fx_up M (p + 6) c s) p (z_give Z c s) := by
  obtain ⟨h0, h1, h2, h3, h4, h5, h6, h7, h8, hw⟩ := hz
  refine ⟨by rw [fx_up_na (by omega)]; exact h0, by rw [fx_up_na (by omega)]; exact h1, by rw [fx_up_na (by omega)]; exact h2, by rw [fx_up_na (by omega)]; exact h3, by rw [fx_up_na (by omega)]; exact h4, fun r R hR => ?_, fun k hk => ?_, by rw [fx_up_na (by omega)]; exact h7, by rw [fx_up_na (by omega)]; exact h8, wys_fr (Z := Z) hw (fx_up_na (by omega)) (fun j => fx_up_na (by omega))⟩
  · obtain ⟨a1, a2, a3, a4, a5⟩ := h5 r R hR
    exact ⟨by rw [fx_up_na (by omega)]; exact a1, by rw [fx_up_na (by omega)]; exact a2, by rw [fx_up_na (by omega)]; exact a3, fun i hi => by rw [fx_up_na (by omega)]; exact a4 i hi, by rw [fx_up_na (by omega)]; exact a5⟩
  · show _ = (Z.2.2.2.2.set c.toNat s).getD k (-1)
    rw [getD_set (by omega)]
    by_cases hk2 : k = c.toNat
    · rw [if_pos hk2, hk2, show ((c.toNat : Nat) : Int) = c by omega, fx_up_self]
    · rw [if_neg hk2, fx_up_nk (by omega)]
      exact h6 k hk
/-- give: no cell, no symbol, or done -/
theorem sp_give {c s : Int} (Hp : fx_puz p) (hz : cz M p Z) (ho : pz_ok Z) (hc : fx_in32 c) (hs : fx_in32 s) (K0 : ¬ (0 ≤ c ∧ c < Z.1 * Z.2.1) → Q (some (jR 1000017)) M) (K1 : (0 ≤ c ∧ c < Z.1 * Z.2.1) → Z.2.2.1 ≤ s → Q (some (jR 1000023)) M) (K2 : (0 ≤ c ∧ c < Z.1 * Z.2.1) → s < Z.2.2.1 → cz (fx_up M (p + 6) c s) p (z_give Z c s) → Q (some (jR 1000013)) (fx_up M (p + 6) c s)) : wc kc (d + 1) 57 [jR p, jI c, jI s] M Q := by
  have hn := pz_n ho
  have hz2 := hz
  obtain ⟨h0, h1, h2, h3, h4, h5, h6, h7, h8⟩ := hz
  obtain ⟨o1, o2, o3, o4, o5, o6, o7, o8, o9, o10, o11⟩ := ho
  refine s57 Hp ⟨hc, fun h => K0 (by omega), fun a1 => ⟨⟨hc, by rw [h2]; exact ⟨by omega, by omega⟩⟩, fun a2 => ⟨⟨hs, by rw [h3]; exact ⟨by omega, by omega⟩⟩, fun a3 => ⟨⟨by omega, by omega⟩, ?_⟩, fun a3 => K1 (by omega) (by omega)⟩, fun a2 => K0 (by omega)⟩⟩
  exact K2 (by omega) (by omega) (cz_give hz2 o9 (by omega))
/-- drop: no rule, or the last rule is gone -/
theorem sp_drop (Hp : fx_puz p) (hz : cz M p Z) (ho : pz_ok Z) (K0 : Z.2.2.2.1 = [] → Q (some (jR 1000035)) M) (K1 : Z.2.2.2.1 ≠ [] → ∀ M', cz M' p (z_drop Z) → (∀ b j, ¬ (b = p ∧ (j = 4 ∨ j = 12)) → M' b j = M b j) → Q (some (jR 1000013)) M') : wc kc (d + 1) 67 [jR p] M Q := by
  obtain ⟨h0, h1, h2, h3, h4, h5, h6, h7, h8, hw⟩ := hz
  obtain ⟨o1, o2, o3, o4, o5, o6, o7, o8, o9, o10, o11⟩ := ho
  refine s67 Hp ⟨by rw [h4]; exact ⟨by omega, by omega⟩, fun hn => ⟨⟨⟨by omega, by omega⟩, ⟨by omega, by omega⟩⟩, ?_⟩, fun h => K0 ?_⟩
  · have hne : Z.2.2.2.1 ≠ [] := fun h => hn (by rw [h4, h]; rfl)
    have hpos : 0 < Z.2.2.2.1.length := List.length_pos_iff.mpr hne
    have e12 : (z_drop Z).2.2.2.1.length = Z.2.2.2.1.length - 1 := List.length_dropLast
    refine K1 hne _ ⟨by rw [fx_up_nk (by decide), fx_up_nk (by decide)]; exact h0, by rw [fx_up_nk (by decide), fx_up_nk (by decide)]; exact h1, by rw [fx_up_nk (by decide), fx_up_nk (by decide)]; exact h2, by rw [fx_up_nk (by decide), fx_up_nk (by decide)]; exact h3, by rw [fx_up_nk (by decide), fx_up_self, e12]; omega, fun r R hR => ?_, fun c hc => by rw [fx_up_na (by omega), fx_up_na (by omega)]; exact h6 c hc, ?_, ?_, ?_⟩ (fun b j hb => by rw [fx_up_ne (by omega), fx_up_ne (by omega)])
    · have hR' : Z.2.2.2.1[r]? = some R := by
        have hR : (Z.2.2.2.1.dropLast)[r]? = some R := hR
        rw [List.dropLast_eq_take] at hR
        have hlt := (List.getElem?_eq_some_iff.mp hR).1
        rw [List.length_take] at hlt
        rwa [List.getElem?_take_of_lt (by omega)] at hR
      obtain ⟨a1, a2, a3, a4, a5⟩ := h5 r R hR'
      exact ⟨by rw [fx_up_na (by omega), fx_up_na (by omega)]; exact a1, by rw [fx_up_na (by omega), fx_up_na (by omega)]; exact a2, by rw [fx_up_na (by omega), fx_up_na (by omega)]; exact a3, fun i hi => by rw [fx_up_na (by omega), fx_up_na (by omega)]; exact a4 i hi, by rw [fx_up_na (by omega), fx_up_na (by omega)]; exact a5⟩
    · rw [fx_up_self]
      split <;> omega
    · rw [fx_up_self, e12]
      split <;> omega
    · intro r R hR hr j hj
      have hR' : Z.2.2.2.1[r]? = some R := by
        have hR : (Z.2.2.2.1.dropLast)[r]? = some R := hR
        rw [List.dropLast_eq_take] at hR
        have hlt := (List.getElem?_eq_some_iff.mp hR).1
        rw [List.length_take] at hlt
        rwa [List.getElem?_take_of_lt (by omega)] at hR
      rw [fx_up_na (by omega), fx_up_na (by omega)]
      refine hw r R hR' ?_ j hj
      rw [fx_up_self] at hr
      split at hr <;> omega
  · rw [h4] at h
    exact List.length_eq_zero_iff.mp (by omega)
theorem mbeg_loop {u : Int} (hu : 0 ≤ u ∧ u < 10) : ∀ (k : Nat) (M : fx_M) (c : Int), c + k = 9 → 0 ≤ c → (∀ M', (∀ j : Int, c ≤ j → j < 9 → M' 154 (9 * u + j) = -1) → (∀ b j, ¬ (b = 154 ∧ 9 * u + c ≤ j ∧ j < 9 * u + 9) → M' b j = M b j) → Q (some (jI 0)) M') → wp kc (d + 1) 214 66 [some (jR 133), some (jI u), none, none, none, some (jI c)] [] M Q
  | 0, M, c, hc, h0, K => s214_66 ⟨⟨by omega, by omega⟩, fun _ => K M (fun j j0 j1 => by omega) (fun _ _ _ => rfl), fun h => by omega⟩
  | k + 1, M, c, hc, h0, K => by
    refine s214_66 ⟨⟨by omega, by omega⟩, fun h => by omega, fun _ => ⟨⟨by omega, by omega⟩, ?_⟩⟩
    refine mbeg_loop hu k _ (c + 1) (by omega) (by omega) (fun M' h1 h2 => K M' (fun j j0 j1 => ?_) (fun b j hb => ?_))
    · by_cases hj : j = c
      · subst hj
        rw [h2 154 (9 * u + j) (by omega), fx_up_self]
      · exact h1 j (by omega) j1
    · rw [h2 b j (by omega), fx_up_ne (by omega)]
/-- only unit u of the reference's puzzles has changed -/
def ufr (u : Int) (M M' : fx_M) : Prop := ∀ b j, ¬ ((b = 146 ∨ b = 147 ∨ b = 148 ∨ b = 149) ∧ j = u) → ¬ ((b = 150 ∨ b = 151 ∨ b = 152) ∧ 12 * u ≤ j ∧ j < 12 * u + 12) → ¬ (b = 153 ∧ 48 * u ≤ j ∧ j < 48 * u + 48) → ¬ (b = 154 ∧ 9 * u ≤ j ∧ j < 9 * u + 9) → M' b j = M b j
/-- begin: 1 (no size) or 0 -/
theorem sp_begin {u w h s : Int} (hu : 0 ≤ u ∧ u < 10) (hw : fx_in32 w) (hh : fx_in32 h) (hs : fx_in32 s) (K0 : ¬ z_size w h s → Q (some (jI 1)) M) (K1 : z_size w h s → ∀ M', mz M' u (z_new w h s) → ufr u M M' → Q (some (jI 0)) M') : wc kc (d + 1) 214 [jR 133, jI u, jI w, jI h, jI s] M Q := by
  unfold z_size at *
  refine s214 ⟨hw, fun h => K0 (by omega), fun a1 => ⟨hw, fun h => K0 (by omega), fun a2 => ⟨hh, fun h => K0 (by omega), fun a3 => ⟨hh, fun h => K0 (by omega), fun a4 => ⟨hs, fun h => K0 (by omega), fun a5 => ⟨hs, fun a6 => ⟨hu, hu, hu, hu, ?_⟩, fun h => K0 (by omega)⟩⟩⟩⟩⟩⟩
  refine mbeg_loop hu 9 _ 0 (by omega) (by omega) (fun M' h1 h2 => K1 (by omega) M' ?_ ?_)
  · refine ⟨?_, ?_, ?_, ?_, fun r R hR => by simp [z_new] at hR, fun c hc => ?_⟩
    · rw [h2 _ _ (by omega), fx_up_na (by decide), fx_up_na (by decide), fx_up_na (by decide), fx_up_self]
      rfl
    · rw [h2 _ _ (by omega), fx_up_na (by decide), fx_up_na (by decide), fx_up_self]
      rfl
    · rw [h2 _ _ (by omega), fx_up_na (by decide), fx_up_self]
      rfl
    · rw [h2 _ _ (by omega), fx_up_self]
      rfl
    · rw [h1 c (by omega) (by omega)]
      show -1 = (List.replicate 9 (-1 : Int)).getD c (-1)
      rw [List.getD_eq_getElem?_getD, List.getElem?_replicate]
      split <;> rfl
  · intro b j a1 a2 a3 a4
    rw [h2 b j (by omega), fx_up_ne (by omega), fx_up_ne (by omega), fx_up_ne (by omega), fx_up_ne (by omega)]
theorem mz_give {u c s : Int} (hz : mz M u Z) (hl : Z.2.2.2.2.length = 9) (hc : 0 ≤ c ∧ c < 9) : mz (fx_up M 154 (9 * u + c) s) u (z_give Z c s) := by
  obtain ⟨h0, h1, h2, h3, h4, h5⟩ := hz
  refine ⟨by rw [fx_up_na (by decide)]; exact h0, by rw [fx_up_na (by decide)]; exact h1, by rw [fx_up_na (by decide)]; exact h2, by rw [fx_up_na (by decide)]; exact h3, fun r R hR => ?_, fun k hk => ?_⟩
  · obtain ⟨a1, a2, a3, a4⟩ := h4 r R hR
    exact ⟨by rw [fx_up_na (by decide)]; exact a1, by rw [fx_up_na (by decide)]; exact a2, by rw [fx_up_na (by decide)]; exact a3, fun i x hx => by rw [fx_up_na (by decide)]; exact a4 i x hx⟩
  · show _ = (Z.2.2.2.2.set c.toNat s).getD k (-1)
    rw [getD_set (by omega)]
    by_cases hk2 : k = c.toNat
    · rw [if_pos hk2, hk2, show ((c.toNat : Nat) : Int) = c by omega, fx_up_self]
    · rw [if_neg hk2, fx_up_nk (by omega)]
      exact h5 k hk
/-- the reference's give: 2 no cell, 5 no symbol, 0 done -/
theorem sp_mgive {u c s : Int} (hu : 0 ≤ u ∧ u < 10) (hz : mz M u Z) (ho : pz_ok Z) (hc : fx_in32 c) (hs : fx_in32 s) (K0 : ¬ (0 ≤ c ∧ c < Z.1 * Z.2.1) → Q (some (jI 2)) M) (K1 : (0 ≤ c ∧ c < Z.1 * Z.2.1) → Z.2.2.1 ≤ s → Q (some (jI 5)) M) (K2 : (0 ≤ c ∧ c < Z.1 * Z.2.1) → s < Z.2.2.1 → mz (fx_up M 154 (9 * u + c) s) u (z_give Z c s) → Q (some (jI 0)) (fx_up M 154 (9 * u + c) s)) : wc kc (d + 2) 245 [jR 133, jI u, jI c, jI s] M Q := by
  have hn := pz_n ho
  have hz2 := hz
  obtain ⟨h0, h1, h2, h3, h4, h5⟩ := hz
  obtain ⟨o1, o2, o3, o4, o5, o6, o7, o8, o9, o10, o11⟩ := ho
  refine s245 (s241 ?_)
  rw [h0, h1]
  refine ⟨hc, fun _ => hu, fun _ => hu, fun _ => hc, fun _ => ⟨by omega, by omega⟩, ⟨by (repeat' split) <;> omega, by (repeat' split) <;> omega⟩, ?_⟩
  by_cases hb : 0 ≤ c ∧ c < Z.1 * Z.2.1
  · rw [if_neg (by omega), if_pos hb.2]
    refine s245_6 ⟨i01.2, fun _ => ⟨hu, ⟨hs, by rw [h2]; exact ⟨by omega, by omega⟩⟩, fun a => ⟨⟨by omega, by omega⟩, K2 hb (by omega) (mz_give hz2 o9 (by omega))⟩, fun a => K1 hb (by omega)⟩, fun h => by omega⟩
  · have e : (if c < 0 then (0 : Int) else (if c < Z.1 * Z.2.1 then (1 : Int) else 0)) = 0 := by
      (repeat' split) <;> omega
    rw [e]
    exact s245_6 ⟨i01.1, fun h => absurd rfl h, fun _ => K0 hb⟩
end PZG
