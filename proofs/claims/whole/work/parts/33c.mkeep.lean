/-! The reference keeps an entry. -/
theorem prs_same {g : Int → Int} {D : List (Int × Int)} (hv : avd g D) {o : Int} : ∀ n : Nat, n ≤ 15 → prs (bCut g D) o n = prs g o n
  | 0, _ => rfl
  | n + 1, h => by
    have hs := (rt_same hv).2.2.2 (n : Int) (by omega) (by omega)
    rw [prs, prs, prs_same hv n (by omega), hs.1, hs.2]
theorem rtD_same {g : Int → Int} {D : List (Int × Int)} (hv : avd g D) (h15 : g (bRt g) ≤ 15) {o c m : Int} : rtD (bCut g D) o c m = rtD g o c m := by
  obtain ⟨r1, r2, r3, r4⟩ := rt_same hv
  unfold rtD rtB
  rw [r1, r3, prs_same hv _ (by omega)]
theorem eB_len {nm T : List Int} : (eB nm T).length = 32 * ned nm T := by
  unfold eB
  rw [List.length_append, eH_len, eT_len]
  unfold ned
  omega
theorem eB_get {nm T : List Int} {i : Nat} (h : i < 32 * ned nm T) : (eB nm T)[i]? = some (if i = 0 then (nm.length : Int) else if i ≤ nm.length then nm.getD (i - 1) 0 else if i = nm.length + 1 then (T.length : Int) % 256 else if i = nm.length + 2 then (T.length : Int) / 256 else T.getD (i - (nm.length + 3)) 0) := by
  have l1 : ((nm.length : Int) :: nm).length = nm.length + 1 := List.length_cons ..
  have l2 : (((nm.length : Int) :: nm) ++ [(T.length : Int) % 256]).length = nm.length + 2 := by rw [List.length_append, l1, List.length_singleton]
  have l3 : (((nm.length : Int) :: nm) ++ [(T.length : Int) % 256] ++ [(T.length : Int) / 256]).length = nm.length + 3 := by rw [List.length_append, l2, List.length_singleton]
  unfold eB eH
  by_cases h1 : i ≤ nm.length
  · rw [List.getElem?_append_left (by omega), List.getElem?_append_left (by omega), List.getElem?_append_left (by omega)]
    cases i with
    | zero => rfl
    | succ i =>
      rw [List.getElem?_cons_succ, if_neg (by omega), if_pos h1, Nat.add_sub_cancel, List.getD_eq_getElem?_getD, List.getElem?_eq_getElem (by omega)]
      rfl
  · rw [if_neg (by omega), if_neg h1]
    by_cases h2 : i = nm.length + 1
    · rw [if_pos h2, List.getElem?_append_left (by omega), List.getElem?_append_left (by omega), List.getElem?_append_right (by omega), l1, show i - (nm.length + 1) = 0 by omega]
      rfl
    · rw [if_neg h2]
      by_cases h3 : i = nm.length + 2
      · rw [if_pos h3, List.getElem?_append_left (by omega), List.getElem?_append_right (by omega), l2, show i - (nm.length + 2) = 0 by omega]
        rfl
      · rw [if_neg h3, List.getElem?_append_right (by omega), l3]
        unfold eT
        rw [List.getElem?_map, List.getElem?_range (by omega)]
        rfl
theorem eB_v {nm T : List Int} (h1 : nm.length ≤ 8) (h2 : ∀ c ∈ nm, 0 ≤ c ∧ c ≤ 255) (h3 : T.length ≤ 512) (h4 : ∀ v ∈ T, 0 ≤ v ∧ v ≤ 255) : ∀ v ∈ eB nm T, 0 ≤ v ∧ v ≤ 255 := fun v hv => by
  obtain ⟨i, hi⟩ := List.mem_iff_getElem?.mp hv
  have hil := (List.getElem?_eq_some_iff.mp hi).1
  rw [eB_len] at hil
  rw [eB_get hil] at hi
  cases hi
  by_cases c1 : i = 0
  · rw [if_pos c1]
    omega
  · rw [if_neg c1]
    by_cases c2 : i ≤ nm.length
    · rw [if_pos c2]
      exact getD_b h2 _
    · rw [if_neg c2]
      by_cases c3 : i = nm.length + 1
      · rw [if_pos c3]
        omega
      · rw [if_neg c3]
        by_cases c4 : i = nm.length + 2
        · rw [if_pos c4]
          omega
        · rw [if_neg c4]
          exact getD_b h4 _
section MKP
variable {kc : List va_E} {d : Nat} {Q : Option fx_V → fx_M → Prop} {g : Int → Int} {nm : List Int} {M : fx_M} {Z : PZ} {u : Int}
theorem sp_keeps (hu : 0 ≤ u ∧ u < 10) (hz : mz M u Z) (ho : pz_ok Z) (hn : mnm M nm) (hnm : nm_ok nm) (hn255 : ∀ c ∈ nm, 0 ≤ c ∧ c ≤ 255) (hg : mbk M g) (hb : bk_b g) (hr : bRg g) (hH : bHs g) (hO : 0 ≤ M 133 5 ∧ M 133 5 ≤ 5000) (K0 : (15 ≤ g (bRt g) - (if bFd g nm (g (bRt g)).toNat 0 < 0 then (0 : Int) else 1) ∨ bRoo g (ned nm (tText Z)) 30 3 < 0) → ∀ M', (∀ b j, b ≠ 136 → M' b j = M b j) → (∀ j, j < M 133 5 → M' 136 j = M 136 j) → Q (some (jI 0)) M') (K1 : g (bRt g) - (if bFd g nm (g (bRt g)).toNat 0 < 0 then (0 : Int) else 1) < 15 → 0 ≤ bRoo g (ned nm (tText Z)) 30 3 → ∀ M', mbk M' (bCut g (keD g (bFd g nm (g (bRt g)).toNat 0) (bRoo g (ned nm (tText Z)) 30 3) nm (tText Z))) → (∀ j, 0 ≤ j → j < 1024 → M' 189 j = g j) → M' 133 99 = bRoo g (ned nm (tText Z)) 30 3 → M' 133 100 = (ned nm (tText Z) : Nat) → M' 133 101 = 3 - bRt g / 32 → M' 133 102 = 32 * ((ned nm (tText Z) : Nat) : Int) + 33 → (∀ b j, b ≠ 136 → b ≠ 188 → b ≠ 189 → ¬ (b = 133 ∧ 99 ≤ j ∧ j ≤ 102) → M' b j = M b j) → (∀ j, j < M 133 5 → M' 136 j = M 136 j) → Q (some (jI 1)) M') : wc kc (d + 6) 365 [jR 133, jI u] M Q := by
  have hrb := bRt_b (g := g)
  have h0 := hb (bRt g) (by omega) (by omega)
  have h15 := hH.1
  have hf := bFd_b (g := g) (nm := nm) (u := (g (bRt g)).toNat) (i := 0)
  obtain ⟨tl, tb⟩ := tText_b ho
  obtain ⟨T, hT⟩ : ∃ T, T = tText Z := ⟨_, rfl⟩
  rw [← hT] at K0 K1 tl tb
  refine s365 (sp_find (d := d + 1) hn hnm hg hb hr hH (s365_4 (sp_sayText (d := d) hu ho hz ⟨hO.1, by omega⟩ (s365_15 ?_))))
  rw [← hT]
  have a5 : m_app M T 133 5 = M 133 5 + T.length := m_app_len (by omega)
  have an : ∀ b j, ¬ (b = 133 ∧ j = 5) → b ≠ 136 → m_app M T b j = M b j := fun b j h1 h2 => m_app_ne h1 h2
  obtain ⟨n0, n1, n2, n3⟩ := hn
  obtain ⟨q1, q2, q3⟩ := hnm
  rw [a5, an 133 16 (by omega) (by decide), n0, show M 133 5 + (T.length : Int) - M 133 5 = T.length by omega]
  generalize hN : fx_up (m_app M T) 133 5 (M 133 5) = N
  have nf : ∀ b j, b ≠ 136 → N b j = M b j := fun b j hb => by
    rw [← hN]
    by_cases h : b = 133 ∧ j = 5
    · obtain ⟨e1, e2⟩ := h
      subst e1 e2
      rw [fx_up_self]
    · rw [fx_up_ne h, an b j h hb]
  have nl : ∀ j, j < M 133 5 → N 136 j = M 136 j := fun j hj => by rw [← hN, fx_up_na (by decide), m_app_lo hj]
  have ng : ∀ i : Nat, i < T.length → N 136 (M 133 5 + i) = T.getD i 0 := fun i hi => by rw [← hN, fx_up_na (by decide), m_app_get (by omega) hi]
  have hned : ned nm T = (nm.length + 3 + T.length + 31) / 32 := rfl
  have en : (1 + (nm.length : Int) + 2 + T.length + 32 - 1) / 32 = ((ned nm T : Nat) : Int) := by
    rw [hned]
    omega
  have hne1 : 1 ≤ ned nm T := by
    rw [hned]
    omega
  have hne2 : ned nm T ≤ 200 := by
    rw [hned]
    omega
  have hne3 : nm.length + 3 + T.length ≤ 32 * ned nm T := by
    rw [hned]
    omega
  have hri := bRoo_in (g := g) (m := ned nm T) (u := 30) (p := 3)
  have hEl := eB_len (nm := nm) (T := T)
  have hEv := eB_v q2 hn255 (by omega) tb
  have hEg := fun i => eB_get (nm := nm) (T := T) (i := i)
  unfold keD at K1
  rw [en]
  refine ⟨⟨by omega, by omega⟩, sp_room (d := d + 1) (mbk_fr hg (fun j => nf 188 j (by decide))) hb hr h15 hne2 (s365_55 ?_)⟩
  generalize bFd g nm (g (bRt g)).toNat 0 = o at K0 K1 hf ⊢
  generalize bRoo g (ned nm T) 30 3 = c at K0 K1 hri ⊢
  clear hned en
  generalize hnd : ned nm T = nd at K0 K1 hri hne1 hne2 hne3 hEl hEg ⊢
  have hi : (if o < 0 then (0 : Int) else 1) = 0 ∨ (if o < 0 then (0 : Int) else 1) = 1 := by split <;> simp
  have go : g (bRt g) - (if o < 0 then (0 : Int) else 1) < 15 → 0 ≤ c → wc kc (d + 5) 370 [jR 133] N (fun v M1 => wp kc (d + 6) 365 81 [some (jR 133), none, some (jI o), some (jI (M 133 5)), some (jI T.length), some (jI nd), some (jI c), none, none, none, none] (v.toList ++ []) M1 Q) := fun hlt hc0 => by
    have K2 := K1 hlt hc0
    have hcr : 3 ≤ c ∧ c + (nd : Int) ≤ 32 := by omega
    have ha : aft (g (bRt g)) o (nd : Int) ≤ 15 := by
      unfold aft
      rw [if_pos (show (0 : Int) < (nd : Int) by omega)]
      omega
    refine sp_remember (d := d + 4) (mbk_fr hg (fun j => nf 188 j (by decide))) (fun P0 p1 p2 => s365_81 ?_)
    have z : ∀ (t k : Nat) (P : fx_M), k + t = 32 * nd → mbk P (bCut g (plc (32 * c) ((eB nm T).take k))) → (∀ b j, b ≠ 188 → P b j = P0 b j) → wp kc (d + 6) 365 91 [some (jR 133), none, some (jI o), some (jI (M 133 5)), some (jI T.length), some (jI nd), some (jI c), some (jI (32 * c)), some (jI k), none, none] [] P Q := by
      intro t
      induction t with
      | zero =>
        intro k P hk hP fP
        rw [List.take_of_length_le (by omega)] at hP
        have hv : avd g (plc (32 * c) (eB nm T)) := fun x hx => by
          have := plc_in hx
          omega
        obtain ⟨r1, r2, r3, r4⟩ := rt_same hv
        have hr' : bRg (bCut g (plc (32 * c) (eB nm T))) := by
          unfold bRg
          rw [r2]
          exact hr
        have hb' : bk_b (bCut g (plc (32 * c) (eB nm T))) := bCut_b hb (fun x hx => hEv _ (plc_in hx).2.2)
        refine s365_91 ⟨⟨⟨by omega, by omega⟩, ⟨by omega, by omega⟩⟩, fun _ => sp_writeRoot (d := d + 2) hP hb' hr' (by rw [r1, r3]; exact h15) (by rw [r1, r3]; exact ⟨by omega, by omega⟩) ⟨by omega, by omega⟩ ⟨by omega, by omega⟩ (by rw [r1, r3]; exact ha) (fun R w1 w2 w3 w4 w5 w6 => s365_249 ?_), fun h => by omega⟩
        rw [rtD_same hv h15, ← bCut_two] at w1
        rw [r1] at w4
        refine K2 R w1 (fun j j0 j1 => ?_) w2 w3 w4 w5 (fun b j b1 b2 b3 b4 => ?_) (fun j hj => ?_)
        · rw [w6 189 j (by decide) (by omega), fP 189 j (by decide)]
          exact p1 j j0 j1
        · rw [w6 b j b2 b4, fP b j b2, p2 b j b3, nf b j b1]
        · rw [w6 136 j (by decide) (by omega), fP 136 j (by decide), p2 136 j (by decide), nl j hj]
      | succ t ih =>
        intro k P hk hP fP
        have f16 : P 133 16 = nm.length := by rw [fP 133 16 (by decide), p2 133 16 (by decide), nf 133 16 (by decide), n0]
        have f15 : P 133 15 = M 133 15 := by rw [fP 133 15 (by decide), p2 133 15 (by decide), nf 133 15 (by decide)]
        have fT : ∀ i : Nat, i < T.length → P 136 (M 133 5 + i) = T.getD i 0 := fun i hi => by rw [fP 136 _ (by decide), p2 136 _ (by decide), ng i hi]
        have fN : ∀ i : Nat, i < nm.length → P 135 (M 133 15 + i) = nm.getD i 0 := fun i hi => by
          rw [fP 135 _ (by decide), p2 135 _ (by decide), nf 135 _ (by decide), n3 i _ (List.getElem?_eq_getElem hi), List.getD_eq_getElem?_getD, List.getElem?_eq_getElem hi]
          rfl
        refine s365_91 ?_
        rw [f16, f15]
        have ev : (if (k : Int) = 0 then (nm.length : Int) else (if (nm.length : Int) < k then (if (k : Int) = (nm.length : Int) + 1 then ((T.length : Int) % 256 : Int) else (if (k : Int) = (nm.length : Int) + 2 then ((T.length : Int) / 256 : Int) else (if ((k : Int) - 3) - nm.length < 0 then (0 : Int) else (if ((k : Int) - 3) - nm.length < T.length then P 136 (M 133 5 + (((k : Int) - 3) - nm.length)) else 0)))) else P 135 ((M 133 15 + (k : Int)) - 1))) = (eB nm T).getD k 0 := by
          rw [List.getD_eq_getElem?_getD, hEg k (by omega), Option.getD_some]
          by_cases c1 : k = 0
          · rw [if_pos (show (k : Int) = 0 by omega), if_pos c1]
          · rw [if_neg (show ¬ (k : Int) = 0 by omega), if_neg c1]
            by_cases c2 : k ≤ nm.length
            · rw [if_neg (show ¬ (nm.length : Int) < k by omega), if_pos c2, ← fN (k - 1) (by omega), show M 133 15 + (k : Int) - 1 = M 133 15 + ((k - 1 : Nat) : Int) by omega]
            · rw [if_pos (show (nm.length : Int) < k by omega), if_neg c2]
              by_cases c3 : k = nm.length + 1
              · rw [if_pos (show (k : Int) = (nm.length : Int) + 1 by omega), if_pos c3]
              · rw [if_neg (show ¬ (k : Int) = (nm.length : Int) + 1 by omega), if_neg c3]
                by_cases c4 : k = nm.length + 2
                · rw [if_pos (show (k : Int) = (nm.length : Int) + 2 by omega), if_pos c4]
                · rw [if_neg (show ¬ (k : Int) = (nm.length : Int) + 2 by omega), if_neg c4, if_neg (show ¬ ((k : Int) - 3) - nm.length < 0 by omega)]
                  by_cases c5 : k - (nm.length + 3) < T.length
                  · rw [if_pos (show ((k : Int) - 3) - nm.length < T.length by omega), ← fT _ c5, show (k : Int) - 3 - nm.length = ((k - (nm.length + 3) : Nat) : Int) by omega]
                  · rw [if_neg (show ¬ ((k : Int) - 3) - nm.length < T.length by omega), List.getD_eq_getElem?_getD, List.getElem?_eq_none (by omega)]
                    rfl
        have hkl : k < (eB nm T).length := by omega
        have m1 := mbk_up hP (a := 32 * c + (k : Int)) (v := (eB nm T).getD k 0)
        rw [cut_1 (by rw [List.length_take]; omega), show (eB nm T).getD k 0 = (eB nm T)[k] by rw [List.getD_eq_getElem?_getD, List.getElem?_eq_getElem hkl]; rfl, ← List.take_succ_eq_append_getElem hkl] at m1
        have nx := ih (k + 1) _ (by omega) m1 (fun b j hb => by rw [fx_up_na hb]; exact fP b j hb)
        rw [show ((k + 1 : Nat) : Int) = (k : Int) + 1 by omega] at nx
        refine ⟨⟨⟨by omega, by omega⟩, ⟨by omega, by omega⟩⟩, fun h => by omega, fun _ => ⟨⟨by omega, by omega⟩, fun _ => ⟨by omega, by omega⟩, fun _ => ⟨by omega, by omega⟩, fun _ _ => ⟨by omega, by omega⟩, ⟨by omega, by omega⟩, fun _ => ⟨by omega, by omega⟩, fun _ => ⟨by omega, by omega⟩, fun _ _ => ⟨by omega, by omega⟩, fun _ _ => ⟨by omega, by omega⟩, fun _ _ _ => ⟨by omega, by omega⟩, fun _ _ _ => ⟨by omega, by omega⟩, fun _ _ _ _ => ⟨by omega, by omega⟩, fun _ _ _ => ⟨by omega, by omega⟩, fun _ _ => ⟨by omega, by omega⟩, ⟨by omega, by omega⟩, ?_⟩⟩
        rw [ev, show (eB nm T).getD k 0 = (eB nm T)[k] by rw [List.getD_eq_getElem?_getD, List.getElem?_eq_getElem hkl]; rfl]
        exact nx
    exact z (32 * nd) 0 P0 (by omega) (mbk_fr hg (fun j => by rw [p2 188 j (by decide), nf 188 j (by decide)])) (fun _ _ _ => rfl)
  refine ⟨⟨by omega, by omega⟩, fun ho0 => ⟨⟨by omega, by omega⟩, fun hc0 => go (by omega) hc0, fun hneg => K0 (Or.inr hneg) N nf nl⟩, fun hneg => ?_⟩
  have e0 : (if o < 0 then (0 : Int) else 1) = 0 := if_pos hneg
  refine sp_mentries (d := d + 3) (mbk_fr hg (fun j => nf 188 j (by decide))) hr (s365_65 ⟨⟨by omega, by omega⟩, fun h => K0 (Or.inl (by omega)) N nf nl, fun hne => ⟨⟨by omega, by omega⟩, fun hc0 => go (by omega) hc0, fun hc => K0 (Or.inr hc) N nf nl⟩⟩)
end MKP
