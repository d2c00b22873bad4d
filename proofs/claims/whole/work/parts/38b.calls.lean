/-! THE CALLS: ask, state. -/
theorem sw_hit {g : Int → Int} {e p : Int} : ∀ (n : Nat) (a r f : Int), (swl g e p n a r f).1 = f ∨ (cpl g e (wls (wrd (swl g e p n a r f).1)) p : Int) = wln (wrd (swl g e p n a r f).1)
  | 0, a, r, f => Or.inl rfl
  | n + 1, a, r, f => by
    rw [swl]
    rcases sw_hit (g := g) (e := e) (p := p) n (a + 1) (sw_r g e p a r) (sw_f g e p a f) with h | h
    · rw [h]
      unfold sw_f
      split
      · next hc =>
        split
        · exact Or.inr hc
        · split
          · exact Or.inr hc
          · exact Or.inl rfl
      · exact Or.inl rfl
    · exact Or.inr h
theorem no_imp {g : Int → Int} {n : Int} (h : g 0 ≠ 105) : (chs g n 0 bsW).1 ≠ 43 := fun hc => by
  obtain ⟨w1, w2⟩ := swW (g := g) (e := n) (p := 0)
  rcases w2 with ⟨a1, a2⟩ | ⟨a1, a2, a3, a4, a5, a6⟩
  · omega
  · have e : (swl g n 0 45 0 0 (-1)).1 = 44 := by
      rw [a3, hc]
      rfl
    rcases sw_hit (g := g) (e := n) (p := 0) 45 0 0 (-1) with hx | hx
    · omega
    · rw [e] at hx
      have e1 : wls (wrd 44) = [105, 109, 112, 111, 114, 116] := by decide +kernel
      have e2 : wln (wrd 44) = 6 := by decide +kernel
      have e3 : cpl g n [105, 109, 112, 111, 114, 116] 0 = 0 := by
        rw [cpl]
        split
        · rfl
        · rfl
      rw [e1, e2, e3] at hx
      cases hx
theorem chs_15 {g : Int → Int} {n : Int} (h : (chs g n 0 bsW).1 = 15) : (chs g n 0 bsW).2.1 = 5 := by
  obtain ⟨w1, w2⟩ := swW (g := g) (e := n) (p := 0)
  rcases w2 with ⟨a1, a2⟩ | ⟨a1, a2, a3, a4, a5, a6⟩
  · omega
  · have e : (swl g n 0 45 0 0 (-1)).1 = 11 := by
      rw [a3, h]
      rfl
    rw [a6, e]
    decide +kernel
section LCB
variable {L : Nat} {xs : Nat → Int32} {k : Nat} {M : fx_M}
/-- the reference copies its tape -/
theorem ma_loop {kc : List va_E} {d : Nat} {Q : Option fx_V → fx_M → Prop} {n : Int} {M0 : fx_M} (hn : 0 ≤ n ∧ n ≤ 3200) (K : ∀ N, (∀ j : Int, 0 ≤ j → j < n → N 135 j = M0 134 j) → (∀ b j, b ≠ 135 → N b j = M0 b j) → wc kc d 219 [jR 133] (fx_up (fx_up N 133 3 n) 133 1 0) (fun v M1 => wp kc (d + 1) 218 58 [none, none, none] (v.toList ++ []) M1 Q)) : ∀ (t i : Nat) (N : fx_M), (i : Int) + t = n → (∀ j : Int, 0 ≤ j → j < i → N 135 j = M0 134 j) → (∀ b j, b ≠ 135 → N b j = M0 b j) → wp kc (d + 1) 218 21 [some (jR 133), some (jI n), some (jI i)] [] N Q
  | 0, i, N, hi, h1, h2 => s218_21 ⟨⟨⟨by omega, by omega⟩, ⟨by omega, by omega⟩⟩, fun _ => K N (fun j j0 j1 => h1 j j0 (by omega)) h2, fun h => by omega⟩
  | t + 1, i, N, hi, h1, h2 => by
    refine s218_21 ⟨⟨⟨by omega, by omega⟩, ⟨by omega, by omega⟩⟩, fun h => by omega, fun _ => ⟨⟨by omega, by omega⟩, ⟨by omega, by omega⟩, ?_⟩⟩
    have ih := ma_loop (kc := kc) (d := d) (Q := Q) hn K t (i + 1) (fx_up N 135 i (N 134 i)) (by omega) (fun j j0 j1 => by
      by_cases e : j = i
      · rw [e, fx_up_self, h2 134 i (by decide)]
      · rw [fx_up_nk e]
        exact h1 j j0 (by omega)) (fun b j hb => by rw [fx_up_na hb, h2 b j hb])
    rw [show ((i + 1 : Nat) : Int) = (i : Int) + 1 by omega] at ih
    exact ih
/-- from the state before a request to the one behind it, once both have answered -/
theorem lwR_end {S : HS} {A : List Int} {N2 P M3 : fx_M} {n : Int} {g : Int → Int} (hk : k + 1 ≤ 600) (hO : hO2 (k + 1) (rqF g n S).2) (ha : aOk (rqF g n S).1) (hc : cRl N2 (rqF g n S).2) (hx : ctx N2 (rqF g n S).1) (hm : mRl M3 (rqF g n S).2) (hq : mtq M3 (rqF g n S).1) (hE : mEnd P M3) (hP : ∀ b j, b < 133 → P b j = N2 b j) (ht : tpR M3) (hb : bytR M3) : lwR (k + 1) M3 := by
  have f : ∀ b j, b < 133 → M3 b j = N2 b j := fun b j h => by rw [hE b j (Or.inl h), hP b j h]
  exact ⟨hk, _, _, cRl_fr hc hO.1.2.2.2.2.1 (fun b j h => f b j (by omega)), hm, hO, ha, ctx_fr hx (fun b j h => f b j (by omega)), hq, ht, hb⟩
theorem l_ask (h : lwR k M) (hk : k + 1 ≤ 600) {n : Int} (hn : fx_in32 n) : lw_call (kcs L xs) 999 16 218 [jI n] M (lwR (k + 1)) := by
  have hR := lwR_up h hk
  obtain ⟨h0, S, A, h1, h2, h3, h4, h5, h6, h7, h8⟩ := h
  obtain ⟨t1, t2, t3, t4⟩ := h7
  have no : ¬ (0 ≤ n ∧ n ≤ M 0 1) → wc (kcs L xs) 999 218 (jR 133 :: [jI n]) M (fun v2 M2 => v2 = some (jI (-1)) ∧ lwR (k + 1) M2) := fun hc => s218 ⟨hn, fun _ => ⟨rfl, hR⟩, fun _ => ⟨⟨hn, by omega, by omega⟩, fun hl => by omega, fun _ => ⟨rfl, hR⟩⟩⟩
  refine s16 ⟨hn, fun hneg => ⟨-1, ⟨by omega, by omega⟩, rfl, no (by omega)⟩, fun hp => ⟨⟨hn, by omega, by omega⟩, fun hle => ⟨⟨by omega, by omega, by omega, by omega, by omega⟩, ?_⟩, fun hgt => ⟨-1, ⟨by omega, by omega⟩, rfl, no (by omega)⟩⟩⟩
  generalize hN : fx_up (fx_cpy M 1 0 2 0 n) 0 1 0 = N
  have fN : ∀ b j, b ≠ 2 → ¬ (b = 0 ∧ j = 1) → N b j = M b j := fun b j b1 b2 => by
    rw [← hN, fx_up_ne b2]
    unfold fx_cpy
    rw [if_neg (fun x => b1 x.1)]
  have n2 : ∀ j : Int, 0 ≤ j → j < n → N 2 j = M 1 j := fun j j0 j1 => by
    rw [← hN, fx_up_na (by decide)]
    unfold fx_cpy
    rw [if_pos ⟨rfl, j0, by omega⟩, show (0 : Int) + (j - 0) = j by omega]
  have n2' : ∀ j : Int, ¬ (0 ≤ j ∧ j < n) → N 2 j = M 2 j := fun j hj => by
    rw [← hN, fx_up_na (by decide)]
    unfold fx_cpy
    rw [if_neg (by omega)]
  have n01 : N 0 1 = 0 := by rw [← hN, fx_up_self]
  have hbN : bytR N := fun j j0 j1 => by
    by_cases e : j < n
    · rw [n2 j j0 e]
      have := t4 j j0 (by omega)
      omega
    · rw [n2' j (by omega)]
      exact h8 j j0 j1
  have hcN : cRl N S := cRl_fr h1 h3.1.2.2.2.2.1 (fun b j hb => fN b j (by omega) (by omega))
  refine c_resp (d := 973) ⟨hp, by omega⟩ hbN hcN h3.1 (fun hw => ?_) (fun M' m1 m2 m3 => s16_38 ?_)
  · have e5 := chs_15 hw
    rw [e5]
    have hb := chs_b (g := N 2) (e := n) (p := 0) (bs := bsW) hp
    have tb := rT_b (g := N 2) (e := n) (c := 32) (p := 5) (w := 0) (by omega)
    have := rPf_len (g := N 2) (e := n) ((n - (rT (N 2) n 32 5 0).1).toNat + 1) (rT (N 2) n 32 5 0).1 tb.2.1
    have er : rPf (N 2) n ((n - (rT (N 2) n 32 5 0).1).toNat + 1) (rT (N 2) n 32 5 0).1 = rCk (N 2) n 5 := rfl
    rw [er] at this
    omega
  · have hS1 := st_F (g := N 2) (n := n) h3 (by omega) hp (fun j j0 j1 => hbN j j0 (by omega))
    have hA1 := an_F (g := N 2) (n := n) h3.1 hp
    have hl1 := hA1.2.1
    have eM1 := m2.1
    refine ⟨M' 3 1, ⟨by omega, by omega⟩, rfl, ?_⟩
    have fM : ∀ b j, 133 ≤ b → M' b j = M b j := fun b j hb => by rw [m3 b j (by omega), fN b j (by omega) (by omega)]
    have e1 : M' 133 1 = M 0 1 := by rw [fM 133 1 (by omega), t1]
    refine s218 ⟨hn, fun hneg => by omega, fun _ => ⟨⟨hn, by omega, by omega⟩, fun _ => ?_, fun hgt => by omega⟩⟩
    refine ma_loop (d := 998) (M0 := fx_up M' 133 0 0) ⟨hp, by omega⟩ (fun T q1 q2 => ?_) n.toNat 0 (fx_up M' 133 0 0) (by omega) (fun j j0 j1 => by omega) (fun _ _ _ => rfl)
    generalize hP : fx_up (fx_up T 133 3 n) 133 1 0 = P
    have fP : ∀ b j, b ≠ 135 → ¬ (b = 133 ∧ (j = 0 ∨ j = 1 ∨ j = 3)) → P b j = M' b j := fun b j b1 b2 => by rw [← hP, fx_up_ne (by omega), fx_up_ne (by omega), q2 b j b1, fx_up_ne (by omega)]
    have p3 : P 133 3 = n := by rw [← hP, fx_up_nk (by decide), fx_up_self]
    have p1 : P 133 1 = 0 := by rw [← hP, fx_up_self]
    have p5 : ∀ j : Int, 0 ≤ j → j < n → P 135 j = M 1 j := fun j j0 j1 => by
      rw [← hP, fx_up_na (by decide), fx_up_na (by decide), q1 j j0 j1, fx_up_na (by decide), fM 134 j (by omega)]
      exact (t4 j j0 (by omega)).1
    have hmP : mRl P S := mRl_fr h2 h3.1 (fun b j hb => by
      have := mCl_b hb
      rw [fP b j (by omega) (by omega), fM b j (by omega)])
    have hag : agr (P 135) (N 2) n := fun j j0 j1 => by rw [p5 j j0 j1, n2 j j0 j1]
    have hF := ag_F (S := S) hag hp
    refine m_resp (d := 978) ⟨hp, by omega⟩ (fun j j0 j1 => by
      have := t4 j j0 (by omega)
      rw [p5 j j0 j1]
      omega) p3 hmP h3.1 (fun _ => by omega) (fun M3 r1 r2 r3 => s218_58 ⟨?_, ?_⟩)
    · rw [hF] at r2
      rw [r2.1, eM1]
    · rw [hF] at r1 r2
      refine lwR_end (A := A) (P := P) hk hS1 hA1 m1 m2 r1 r2 r3 (fun b j hb => fP b j (by omega) (by omega)) ?_ (fun j j0 j1 => ?_)
      · have a0 : M3 0 1 = 0 := by rw [r3 0 1 (by omega), fP 0 1 (by omega) (by omega), m3 0 1 (by omega), n01]
        have a1 : M3 133 1 = 0 := by rw [r3 133 1 (by omega), p1]
        unfold tpR
        rw [a0, a1]
        exact ⟨rfl, by omega, by omega, fun j j0 j1 => by omega⟩
      · rw [r3 2 j (by omega), fP 2 j (by omega) (by omega), m3 2 j (by omega)]
        exact hbN j j0 j1
theorem l_state (h : lwR k M) (hk : k + 1 ≤ 600) {n : Int} (hn : fx_in32 n) : lw_call (kcs L xs) 999 207 423 [jI n] M (lwR (k + 1)) := by
  have hR := lwR_up h hk
  obtain ⟨h0, S, A, h1, h2, h3, h4, h5, h6, h7, h8⟩ := h
  have ho := h3.1.1
  have h9 := pz_n ho
  have hz := h1.1
  have hy := h2.1
  have h12 := ho.2.2.2.2.2.2.1
  have hs4 := ho.2.2.2.2.2.1
  have hs1 := ho.2.2.2.2.1
  have hvo := h3.1.2.2.1
  have a5 := h4.2.1
  have e3 := h5.1
  have e5 := h6.1
  have hc6 := h3.1.2.2.2.2.1.2.1
  have hcg : cgv S.1 ≤ 9 := by
    unfold cgv
    have := List.length_filter_le (fun c => decide (0 ≤ gv S.1 c)) (List.range (S.1.1 * S.1.2.1).toNat)
    rw [List.length_range] at this
    omega
  have hq := hvo.2.2.2.1 (S.2.1 0 0) hvo.1 hvo.2.1
  have v0 := hvo.1
  have v3 := hvo.2.1
  have u1 : M 53 0 = S.2.1 0 0 := h1.2.2.1.1
  have u2 : M 133 80 = S.2.1 0 0 := h2.2.1.1
  have u3 : M 56 (S.2.1 0 0) = S.2.1 3 (S.2.1 0 0) := h1.2.2.1.2 3 (S.2.1 0 0) (by omega) (by omega) v0 v3
  have u4 : M 176 (S.2.1 0 0) = S.2.1 3 (S.2.1 0 0) := h2.2.1.2 3 (S.2.1 0 0) (by omega) (by omega) v0 v3
  have u5 : M 62 0 = S.2.2.1.length := h1.2.2.2.1.1
  have u6 : M 133 89 = S.2.2.1.length := h2.2.2.1.1
  have u7 : M 125 1 = S.2.2.2.1 := h1.2.2.2.2.1
  have u8 : M 133 96 = S.2.2.2.1 := h2.2.2.2.1
  have uo := h3.1.2.2.2.2.2.1
  have mzU : mz (fx_up M 133 0 0) 0 S.1 := mz_frM hy (fun b j b1 b2 => fx_up_na (by omega))
  refine s207 ⟨hn, fun e => ?_, fun e => ?_, fun e => ?_, fun e => ?_, fun e => ?_, fun e => ?_, fun e => ?_, fun e => ?_, fun e => ?_, fun e => ?_, fun e => ?_⟩
  · have a : M 11 4 = S.1.2.2.2.1.length := hz.2.2.2.2.1
    have b : M 149 0 = S.1.2.2.2.1.length := hy.2.2.2.1
    refine ⟨M 11 4, ⟨by omega, by omega⟩, rfl, s423 ⟨hn, fun _ => ?_, fun h => by omega, fun h => by omega, fun h => by omega, fun h => by omega, fun h => by omega, fun h => by omega, fun h => by omega, fun h => by omega, fun h => by omega, fun h => by omega⟩⟩
    exact ⟨by rw [b, a], hR⟩
  · refine sp_givens (d := 997) ho hz (s207_71 ⟨(cgv S.1 : Nat), ⟨by omega, by omega⟩, rfl, s423 ⟨hn, fun h => by omega, fun _ => ?_, fun h => by omega, fun h => by omega, fun h => by omega, fun h => by omega, fun h => by omega, fun h => by omega, fun h => by omega, fun h => by omega, fun h => by omega⟩⟩)
    exact sp_countGivens (d := 996) ho mzU (s423_71 ⟨rfl, hR⟩)
  · have a : M 11 2 = S.1.1 * S.1.2.1 := hz.2.2.1
    have b1 : (fx_up M 133 0 0) 146 0 = S.1.1 := mzU.1
    have b2 : (fx_up M 133 0 0) 147 0 = S.1.2.1 := mzU.2.1
    refine ⟨M 11 2, ⟨by omega, by omega⟩, rfl, s423 ⟨hn, fun h => by omega, fun h => by omega, fun _ => ?_, fun h => by omega, fun h => by omega, fun h => by omega, fun h => by omega, fun h => by omega, fun h => by omega, fun h => by omega, fun h => by omega⟩⟩
    refine s248 (s423_76 ⟨?_, hR⟩)
    rw [b1, b2, a]
  · have a : M 11 3 = S.1.2.2.1 := hz.2.2.2.1
    have b : M 148 0 = S.1.2.2.1 := hy.2.2.1
    refine ⟨M 11 3, ⟨by omega, by omega⟩, rfl, s423 ⟨hn, fun h => by omega, fun h => by omega, fun h => by omega, fun _ => ?_, fun h => by omega, fun h => by omega, fun h => by omega, fun h => by omega, fun h => by omega, fun h => by omega, fun h => by omega⟩⟩
    exact ⟨by rw [b, a], hR⟩
  · refine s208 ⟨⟨by omega, by omega⟩, s207_95 ⟨M 56 (M 53 0), by rw [u1, u3]; exact ⟨by omega, by omega⟩, rfl, s423 ⟨hn, fun h => by omega, fun h => by omega, fun h => by omega, fun h => by omega, fun _ => ?_, fun h => by omega, fun h => by omega, fun h => by omega, fun h => by omega, fun h => by omega, fun h => by omega⟩⟩⟩
    refine ⟨⟨by omega, by omega⟩, ?_, hR⟩
    rw [u2, u4, u1, u3]
  · refine ⟨⟨by omega, by omega⟩, fun z => ⟨-1, ⟨by omega, by omega⟩, rfl, s423 ⟨hn, fun h => by omega, fun h => by omega, fun h => by omega, fun h => by omega, fun h => by omega, fun _ => ?_, fun h => by omega, fun h => by omega, fun h => by omega, fun h => by omega, fun h => by omega⟩⟩, fun z => ?_⟩
    · exact ⟨⟨by omega, by omega⟩, fun _ => ⟨rfl, hR⟩, fun y => by omega⟩
    · have eo : S.2.2.2.1 = 1 := by omega
      have hM := h3.1.2.2.2.2.2.2.2.1 eo
      have hb := h3.1.2.2.2.2.2.2.1
      have hrb := bRt_b (g := S.2.2.2.2.1)
      have h00 := hb (bRt S.2.2.2.2.1) (by omega) (by omega)
      have h15 := hM.2.1
      have hNE : bNE S.2.2.2.2.1 = S.2.2.2.2.1 (bRt S.2.2.2.2.1) := by
        unfold bNE
        rw [if_neg (by omega)]
      refine sp_entries (d := 996) h1.2.2.2.2.2.1 hb (s207_113 ⟨bNE S.2.2.2.2.1, by rw [hNE]; exact ⟨by omega, by omega⟩, rfl, s423 ⟨hn, fun h => by omega, fun h => by omega, fun h => by omega, fun h => by omega, fun h => by omega, fun _ => ?_, fun h => by omega, fun h => by omega, fun h => by omega, fun h => by omega, fun h => by omega⟩⟩)
      refine ⟨⟨by omega, by omega⟩, fun y => by omega, fun _ => ?_⟩
      refine sp_mentries (d := 996) (g := S.2.2.2.2.1) (mbk_fr h2.2.2.2.2.1 (fun j => fx_up_na (by decide))) hM.1 (s423_105 ⟨?_, hR⟩)
      rw [hNE]
  · obtain ⟨t1, t2, t3, t4⟩ := h7
    refine ⟨M 0 1, ⟨by omega, by omega⟩, rfl, s423 ⟨hn, fun h => by omega, fun h => by omega, fun h => by omega, fun h => by omega, fun h => by omega, fun h => by omega, fun _ => ?_, fun h => by omega, fun h => by omega, fun h => by omega, fun h => by omega⟩⟩
    exact ⟨by rw [t1], hR⟩
  · refine ⟨M 3 1, ⟨by omega, by omega⟩, rfl, s423 ⟨hn, fun h => by omega, fun h => by omega, fun h => by omega, fun h => by omega, fun h => by omega, fun h => by omega, fun h => by omega, fun _ => ?_, fun h => by omega, fun h => by omega, fun h => by omega⟩⟩
    exact ⟨by rw [e5, e3], hR⟩
  · refine ⟨M 53 0, ⟨by omega, by omega⟩, rfl, s423 ⟨hn, fun h => by omega, fun h => by omega, fun h => by omega, fun h => by omega, fun h => by omega, fun h => by omega, fun h => by omega, fun h => by omega, fun _ => ?_, fun h => by omega, fun h => by omega⟩⟩
    exact ⟨by rw [u2, u1], hR⟩
  · refine ⟨M 62 0, ⟨by omega, by omega⟩, rfl, s423 ⟨hn, fun h => by omega, fun h => by omega, fun h => by omega, fun h => by omega, fun h => by omega, fun h => by omega, fun h => by omega, fun h => by omega, fun h => by omega, fun _ => ?_, fun h => by omega⟩⟩
    exact ⟨by rw [u6, u5], hR⟩
  · refine ⟨-1, ⟨by omega, by omega⟩, rfl, s423 ⟨hn, fun h => by omega, fun h => by omega, fun h => by omega, fun h => by omega, fun h => by omega, fun h => by omega, fun h => by omega, fun h => by omega, fun h => by omega, fun h => by omega, fun _ => ?_⟩⟩
    exact ⟨rfl, hR⟩
end LCB
