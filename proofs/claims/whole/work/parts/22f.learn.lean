/-! learn of the class: the ways of all rules. -/
/-- the ways below w are in the long -/
def wy_p (w s : Int) (R : PR) (j k : Nat) (v : Int) : Prop := fx_in64 v ∧ ∀ i : Nat, i < 64 → lbit v i = (decide (i + 64 * j < k) && (wyx R.2.2.length (i + 64 * j)).all (fun x => decide (x < s)) && met w R (wyx R.2.2.length (i + 64 * j)))
section LEA
variable {kc : List va_E} {d p : Nat} {Q : Option fx_V → fx_M → Prop} {Z : PZ} {R : PR} {r : Nat}
theorem cz_way {M N : fx_M} (hz : cz M p Z) (hr : M p 12 ≤ (r : Int)) (h : ∀ (b : Nat) (j : Int), ¬ (b = p + 7 ∧ 4 * (r : Int) ≤ j) → b ≠ p + 8 → N b j = M b j) : cz N p Z := by
  have f : ∀ (b : Nat) (j : Int), b ≤ p + 6 → N b j = M b j := fun b j hb => h b j (by omega) (by omega)
  obtain ⟨z0, z1, z2, z3, z4, z5, z6, z7, z8, zw⟩ := hz
  refine ⟨by rw [f _ _ (by omega)]; exact z0, by rw [f _ _ (by omega)]; exact z1, by rw [f _ _ (by omega)]; exact z2, by rw [f _ _ (by omega)]; exact z3, by rw [f _ _ (by omega)]; exact z4, fun r R hR => ?_, fun c hc => by rw [f _ _ (by omega)]; exact z6 c hc, by rw [f _ _ (by omega)]; exact z7, by rw [f _ _ (by omega)]; exact z8, fun r2 R2 hR2 hk j hj => ?_⟩
  · obtain ⟨a1, a2, a3, a4, a5⟩ := z5 r R hR
    exact ⟨by rw [f _ _ (by omega)]; exact a1, by rw [f _ _ (by omega)]; exact a2, by rw [f _ _ (by omega)]; exact a3, fun i hi => by rw [f _ _ (by omega)]; exact a4 i hi, by rw [f _ _ (by omega)]; exact a5⟩
  · rw [f _ _ (by omega)] at hk
    rw [h _ _ (by omega) (by omega)]
    exact zw r2 R2 hR2 hk j hj
theorem way_loop (Hp : fx_puz p) (ho : pz_ok Z) (hR : Z.2.2.2.1[r]? = some R) {hg : Int} (hh : R.1 = 3 → ∀ s : Nat, s < 16 → fx_and (fx_shr hg (s : Int)) 1 = bI (hgs (lnB Z.1 R.2.2) s)) : ∀ (t w : Nat) (M : fx_M), w + t = 4 ^ R.2.2.length → cz M p Z → M p 12 ≤ (r : Int) → (∀ j : Nat, j < 4 → wy_p Z.1 Z.2.2.1 R j w (M (p + 7) (4 * (r : Int) + j))) → (∀ N : fx_M, (∀ (b : Nat) (j : Int), ¬ (b = p + 7 ∧ 4 * (r : Int) ≤ j ∧ j < 4 * (r : Int) + 4) → N b j = M b j) → (∀ j : Nat, j < 4 → wy_ok Z.1 Z.2.2.1 R j (N (p + 7) (4 * (r : Int) + j))) → wp kc (d + 3) 75 5 [some (jR p), some (jI ((r : Int) + 1)), none, none] [] N Q) → wp kc (d + 3) 75 59 [some (jR p), some (jI r), some (jI hg), some (jI w)] [] M Q := by
  obtain ⟨⟨k1, k2, k3, k4, k5, k6, k7, k8⟩, hr12⟩ := rule_in ho hR
  have h4 : 4 ^ R.2.2.length ≤ 256 := Nat.pow_le_pow_right (n := 4) (by decide) (show _ ≤ 4 from k6)
  have e4 : ∀ M : fx_M, cz M p Z → fx_shl 1 (2 * M (p + 3) (r : Int)) = ((4 ^ R.2.2.length : Nat) : Int) := fun M hz => by
    rw [(hz.2.2.2.2.2.1 r R hR).2.2.1, fx_shl_1 (by omega), show (2 * (R.2.2.length : Int)).toNat = 2 * R.2.2.length by omega, Nat.pow_mul]
  intro t
  induction t with
  | zero =>
    intro w M hw hz h12 hy K
    refine s75_59 Hp ?_
    rw [e4 M hz]
    refine ⟨⟨by omega, by omega⟩, ⟨⟨by omega, by omega⟩, ⟨by omega, by omega⟩⟩, fun _ => K M (fun _ _ _ => rfl) (fun j hj => ?_), fun h => by omega⟩
    obtain ⟨y1, y2⟩ := hy j hj
    refine ⟨y1, fun i hi => ?_⟩
    rw [y2 i hi, show w = 4 ^ R.2.2.length by omega]
  | succ t ih =>
    intro w M hw hz h12 hy K
    have e1 : ((w + 1 : Nat) : Int) = (w : Int) + 1 := by omega
    refine s75_59 Hp ?_
    rw [e4 M hz]
    have hon : onB (wyx R.2.2.length w) < 16 := by
      refine Nat.lt_of_lt_of_le (onB_lt _) ?_
      exact Nat.pow_le_pow_right (n := 2) (by decide) (show _ ≤ 4 by simp [wyx]; omega)
    refine ⟨⟨by omega, by omega⟩, ⟨⟨by omega, by omega⟩, ⟨by omega, by omega⟩⟩, fun h => by omega, fun _ => sp_isMet Hp hz ho hR (by omega) (fun h3 => hh h3 _ hon) (s75_80 Hp ?_)⟩
    have e6 : fx_shr (w : Int) 6 = ((w / 64 : Nat) : Int) := by
      rw [fx_shr_eq ⟨by omega, by omega⟩ (by omega)]
      show (w : Int) / ((2 ^ 6 : Nat) : Int) = _
      omega
    have e63 : fx_and (w : Int) 63 = ((w % 64 : Nat) : Int) := by
      rw [fx_and_mask 6 (by decide) (by decide)]
      show (w : Int) % ((2 ^ 6 : Nat) : Int) = _
      omega
    rw [e6, e63]
    have hq : w / 64 < 4 := by omega
    cases hm : ((wyx R.2.2.length w).all (fun x => decide (x < Z.2.2.1)) && met Z.1 R (wyx R.2.2.length w))
    · refine ⟨⟨by decide, by decide⟩, fun _ => ?_, fun h => absurd rfl h⟩
      have nx := ih (w + 1) M (by omega) hz h12 (fun j hj => ?_) K
      · rw [e1] at nx
        exact nx
      · obtain ⟨y1, y2⟩ := hy j hj
        refine ⟨y1, fun i hi => ?_⟩
        rw [y2 i hi]
        by_cases hx : i + 64 * j = w
        · rw [hx, Bool.and_assoc, Bool.and_assoc, hm, Bool.and_false, Bool.and_false]
        · congr 2
          simp
          omega
    · refine ⟨⟨by decide, by decide⟩, fun h => absurd h (by decide), fun _ => ⟨⟨by omega, by omega⟩, ⟨by omega, by omega⟩, ?_⟩⟩
      have hfr : ∀ (b : Nat) (j : Int), ¬ (b = p + 7 ∧ 4 * (r : Int) ≤ j ∧ j < 4 * (r : Int) + 4) → (fx_up M (p + 7) (4 * (r : Int) + ((w / 64 : Nat) : Int)) (fx_lor (M (p + 7) (4 * (r : Int) + ((w / 64 : Nat) : Int))) (fx_lshl 1 ((w % 64 : Nat) : Int)))) b j = M b j := fun b j hb => fx_up_ne (by omega)
      have nx := ih (w + 1) (fx_up M (p + 7) (4 * (r : Int) + ((w / 64 : Nat) : Int)) (fx_lor (M (p + 7) (4 * (r : Int) + ((w / 64 : Nat) : Int))) (fx_lshl 1 ((w % 64 : Nat) : Int)))) (by omega) (cz_way hz h12 (fun b j hb _ => hfr b j (by omega))) (by rw [hfr _ _ (by omega)]; exact h12) (fun j hj => ?_) (fun N hN hy2 => K N (fun b j hb => by rw [hN b j hb, hfr b j hb]) hy2)
      · rw [e1] at nx
        exact nx
      · by_cases hjq : j = w / 64
        · rw [hjq, fx_up_self]
          obtain ⟨y1, y2⟩ := hy (w / 64) hq
          refine ⟨in64_lor _ _, fun i hi => ?_⟩
          rw [lbit_lor, lbit_1s (by omega) i hi, y2 i hi, Int.toNat_natCast]
          by_cases hx : i = w % 64
          · have hxw : i + 64 * (w / 64) = w := by omega
            rw [hxw, Bool.and_assoc, Bool.and_assoc, hm]
            simp [hx]
          · rw [decide_eq_false hx, Bool.or_false]
            congr 2
            simp
            omega
        · rw [fx_up_nk (by omega)]
          obtain ⟨y1, y2⟩ := hy j hj
          refine ⟨y1, fun i hi => ?_⟩
          rw [y2 i hi]
          congr 2
          simp
          omega
theorem zero_loop (Hp : fx_puz p) (hr : r < 12) {hg : Int} : ∀ (t k : Nat) (M : fx_M), k + t = 4 → (∀ j : Nat, j < k → M (p + 7) (4 * (r : Int) + j) = 0) → (∀ N : fx_M, (∀ (b : Nat) (j : Int), ¬ (b = p + 7 ∧ 4 * (r : Int) ≤ j ∧ j < 4 * (r : Int) + 4) → N b j = M b j) → (∀ j : Nat, j < 4 → N (p + 7) (4 * (r : Int) + j) = 0) → wp kc (d + 1) 75 59 [some (jR p), some (jI r), some (jI hg), some (jI 0)] [] N Q) → wp kc (d + 1) 75 35 [some (jR p), some (jI r), some (jI hg), some (jI k)] [] M Q := by
  intro t
  induction t with
  | zero =>
    intro k M hk h0 K
    exact s75_35 Hp ⟨⟨by omega, by omega⟩, fun _ => K M (fun _ _ _ => rfl) (fun j hj => h0 j (by omega)), fun h => by omega⟩
  | succ t ih =>
    intro k M hk h0 K
    refine s75_35 Hp ⟨⟨by omega, by omega⟩, fun h => by omega, fun _ => ⟨⟨by omega, by omega⟩, ?_⟩⟩
    have nx := ih (k + 1) (fx_up M (p + 7) (4 * (r : Int) + (k : Int)) 0) (by omega) (fun j hj => ?_) (fun N hN h2 => K N (fun b j hb => by rw [hN b j hb, fx_up_ne (by omega)]) h2)
    · rw [show ((k + 1 : Nat) : Int) = (k : Int) + 1 by omega] at nx
      exact nx
    · by_cases hjk : j = k
      · rw [hjk, fx_up_self]
      · rw [fx_up_nk (by omega)]
        exact h0 j (by omega)
theorem lea_loop (Hp : fx_puz p) (ho : pz_ok Z) : ∀ (t r : Nat) (M : fx_M), r + t = Z.2.2.2.1.length → cz M p Z → M p 12 ≤ (r : Int) → (∀ (q : Nat) (R : PR), Z.2.2.2.1[q]? = some R → q < r → ∀ j : Nat, j < 4 → wy_ok Z.1 Z.2.2.1 R j (M (p + 7) (4 * (q : Int) + j))) → (∀ N : fx_M, cz N p Z → N p 12 = Z.2.2.2.1.length → (∀ (b : Nat) (j : Int), ¬ (b = p ∧ j = 12) → b ≠ p + 7 → b ≠ p + 8 → N b j = M b j) → Q none N) → wp kc (d + 3) 75 5 [some (jR p), some (jI r), none, none] [] M Q := by
  have o7 := ho.2.2.2.2.2.2.1
  intro t
  induction t with
  | zero =>
    intro r M hr hz h12 hy K
    refine s75_5 Hp ?_
    rw [hz.2.2.2.2.1]
    refine ⟨⟨⟨by omega, by omega⟩, ⟨by omega, by omega⟩⟩, fun _ => K _ ?_ (by rw [fx_up_self]) (fun b j hb _ _ => fx_up_ne hb), fun h => by omega⟩
    obtain ⟨z0, z1, z2, z3, z4, z5, z6, z7, z8, zw⟩ := hz
    refine ⟨by rw [fx_up_nk (by decide)]; exact z0, by rw [fx_up_nk (by decide)]; exact z1, by rw [fx_up_nk (by decide)]; exact z2, by rw [fx_up_nk (by decide)]; exact z3, by rw [fx_up_nk (by decide)]; exact z4, fun q R hR => ?_, fun c hc => by rw [fx_up_na (by omega)]; exact z6 c hc, by rw [fx_up_self]; omega, by rw [fx_up_self]; omega, fun q R hR hk j hj => ?_⟩
    · obtain ⟨a1, a2, a3, a4, a5⟩ := z5 q R hR
      exact ⟨by rw [fx_up_na (by omega)]; exact a1, by rw [fx_up_na (by omega)]; exact a2, by rw [fx_up_na (by omega)]; exact a3, fun i hi => by rw [fx_up_na (by omega)]; exact a4 i hi, by rw [fx_up_na (by omega)]; exact a5⟩
    · rw [fx_up_na (by omega)]
      have := (List.getElem?_eq_some_iff.mp hR).1
      exact hy q R hR (by omega) j hj
  | succ t ih =>
    intro r M hr hz h12 hy K
    have hrl : r < Z.2.2.2.1.length := by omega
    have hR : Z.2.2.2.1[r]? = some Z.2.2.2.1[r] := List.getElem?_eq_getElem hrl
    generalize hRR : Z.2.2.2.1[r] = R at hR
    obtain ⟨⟨k1, k2, k3, k4, k5, k6, k7, k8⟩, hr12⟩ := rule_in ho hR
    obtain ⟨a1, a2, a3, a4, a5⟩ := hz.2.2.2.2.2.1 r R hR
    have go : ∀ (hg : Int) (N : fx_M), lfr p M N → (R.1 = 3 → ∀ s : Nat, s < 16 → fx_and (fx_shr hg (s : Int)) 1 = bI (hgs (lnB Z.1 R.2.2) s)) → wp kc (d + 3) 75 35 [some (jR p), some (jI r), some (jI hg), some (jI 0)] [] N Q := fun hg N hN hh => by
      refine zero_loop Hp hr12 4 0 N (by omega) (fun j hj => by omega) (fun P hP h0 => ?_)
      have hPM : ∀ (b : Nat) (j : Int), ¬ (b = p + 7 ∧ 4 * (r : Int) ≤ j ∧ j < 4 * (r : Int) + 4) → b ≠ p + 8 → P b j = M b j := fun b j hb hb8 => by rw [hP b j hb, hN b j hb8]
      have hzP : cz P p Z := cz_way hz h12 (fun b j hb hb8 => hPM b j (by omega) hb8)
      have hp12 : P p 12 = M p 12 := hPM _ _ (by omega) (by omega)
      refine way_loop Hp ho hR hh (4 ^ R.2.2.length) 0 P (by omega) hzP (by omega) (fun j hj => ?_) (fun N2 hN2 hy2 => ?_)
      · rw [h0 j hj]
        refine ⟨⟨by omega, by omega⟩, fun i hi => ?_⟩
        rw [lbit_0, decide_eq_false (by omega)]
        rfl
      · have hN2M : ∀ (b : Nat) (j : Int), ¬ (b = p + 7 ∧ 4 * (r : Int) ≤ j ∧ j < 4 * (r : Int) + 4) → b ≠ p + 8 → N2 b j = M b j := fun b j hb hb8 => by rw [hN2 b j hb, hPM b j hb hb8]
        have nx := ih (r + 1) N2 (by omega) (cz_way hz h12 (fun b j hb hb8 => hN2M b j (by omega) hb8)) (by rw [hN2M _ _ (by omega) (by omega)]; omega) (fun q R2 hR2 hq j hj => ?_) (fun N3 c1 c2 c3 => K N3 c1 c2 (fun b j b1 b2 b3 => by rw [c3 b j b1 b2 b3, hN2M b j (by omega) b3]))
        · rw [show ((r + 1 : Nat) : Int) = (r : Int) + 1 by omega] at nx
          exact nx
        · by_cases hqr : q = r
          · subst hqr
            rw [hR] at hR2
            have : R = R2 := Option.some.inj hR2
            subst this
            exact hy2 j hj
          · rw [hN2M _ _ (by omega) (by omega)]
            exact hy q R2 hR2 (by omega) j hj
    refine s75_5 Hp ?_
    rw [hz.2.2.2.2.1, a1]
    refine ⟨⟨⟨by omega, by omega⟩, ⟨by omega, by omega⟩⟩, fun h => by omega, fun _ => ⟨⟨by omega, by omega⟩, ⟨by omega, by omega⟩, fun hn => go 0 M (fun _ _ _ => rfl) (fun h => absurd h hn), fun h3 => ?_⟩⟩
    exact sp_hanging Hp ho hz hR (fun N h hN hh => s75_28 Hp (go h N hN (fun _ => hh)))
/-- learn -/
theorem sp_learn {M : fx_M} (Hp : fx_puz p) (ho : pz_ok Z) (hz : cz M p Z) (K : ∀ N : fx_M, cz N p Z → N p 12 = Z.2.2.2.1.length → (∀ (b : Nat) (j : Int), ¬ (b = p ∧ j = 12) → b ≠ p + 7 → b ≠ p + 8 → N b j = M b j) → Q none N) : wc kc (d + 3) 75 [jR p] M Q := by
  obtain ⟨h7, h8, hw⟩ := hz.2.2.2.2.2.2.2
  have e : M p 12 = ((M p 12).toNat : Nat) := by omega
  have := lea_loop (Q := Q) (kc := kc) (d := d) Hp ho (Z.2.2.2.1.length - (M p 12).toNat) (M p 12).toNat M (by omega) hz (by omega) (fun q R hR hq j hj => hw q R hR (by omega) j hj) K
  rw [← e] at this
  exact s75 Hp this
end LEA
