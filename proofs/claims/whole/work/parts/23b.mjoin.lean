/-! isJoined and isMet of the reference. -/
theorem hgI_n {b : Nat → Nat} {set : Nat} : ∀ (t k r m : Nat), (∀ i : Nat, k + t ≤ i → b i = 0) → hgI b set (t + m) k r = hgI b set t k r
  | 0, k, r, 0, _ => rfl
  | 0, k, r, m + 1, h => by
    show hgI b set (0 + m + 1) k r = r
    unfold hgI
    have := hgI_n (b := b) (set := set) 0 (k + 1) (if r.testBit k = true then r ||| (b k &&& set) else r) m (fun i hi => h i (by omega))
    rw [this]
    show (if r.testBit k = true then r ||| (b k &&& set) else r) = r
    rw [h k (by omega), Nat.zero_and, Nat.or_zero]
    split <;> rfl
  | t + 1, k, r, m, h => by
    rw [show t + 1 + m = t + m + 1 by omega]
    unfold hgI
    exact hgI_n t (k + 1) _ m (fun i hi => h i (by omega))
theorem onB_bit : ∀ (l : List Int) (i : Nat), (onB l).testBit i = (decide (i < l.length) && decide (l.getD i 0 = 1))
  | [], i => by simp [onB]
  | x :: t, 0 => by
    show ((if x = 1 then 1 else 0) + 2 * onB t).testBit 0 = _
    rw [Nat.testBit_zero]
    by_cases h : x = 1
    · rw [if_pos h]
      simp [h]
    · rw [if_neg h]
      simp [h]
  | x :: t, i + 1 => by
    show ((if x = 1 then 1 else 0) + 2 * onB t).testBit (i + 1) = _
    rw [Nat.testBit_succ, show ((if x = 1 then 1 else 0) + 2 * onB t) / 2 = onB t by split <;> omega, onB_bit t i]
    simp
section MJN
variable {kc : List va_E} {d : Nat} {M : fx_M} {Q : Option fx_V → fx_M → Prop} {Z : PZ} {R : PR} {r : Nat}
theorem mxs_lt (h : mrl M Z R r) : onB (mxs M R) < 16 := by
  have hl4 := h.ok.2.2.2.2.2.1
  refine Nat.lt_of_lt_of_le (onB_lt _) ?_
  rw [mxs_len]
  exact Nat.pow_le_pow_right (n := 2) (by decide) (show _ ≤ 4 from hl4)
theorem take_lt (h : mrl M Z R r) (k : Nat) : onB ((mxs M R).take k) < 16 ∧ onB ((mxs M R).take k) < 2 ^ k := by
  have hl4 := h.ok.2.2.2.2.2.1
  constructor
  · refine Nat.lt_of_lt_of_le (onB_lt _) ?_
    rw [List.length_take, mxs_len]
    exact Nat.pow_le_pow_right (n := 2) (by decide) (show _ ≤ 4 by omega)
  · refine Nat.lt_of_lt_of_le (onB_lt _) ?_
    rw [List.length_take]
    exact Nat.pow_le_pow_right (n := 2) (by decide) (by omega)
theorem ones_loop (h : mrl M Z R r) (K : wp kc (d + 2) 276 48 [some (jR 133), some (jI r), some (jI (onB (mxs M R) : Nat)), some (jI ((onB (mxs M R) &&& (16 - onB (mxs M R)) : Nat) : Int)), some (jI 0), none, none] [] M Q) : ∀ (t i : Nat), i + t = R.2.2.length → wp kc (d + 2) 276 4 [some (jR 133), some (jI r), some (jI (onB ((mxs M R).take i) : Nat)), some (jI i), none, none, none] [] M Q := by
  have hl4 := h.ok.2.2.2.2.2.1
  have hr := h.r12
  have hl := mxs_len (M := M) (R := R)
  intro t
  induction t with
  | zero =>
    intro i hi
    refine s276_4 ?_
    rw [h.sz, List.take_of_length_le (by omega)]
    have e := sm_low ⟨_, mxs_lt h⟩
    simp only at e
    rw [e]
    exact ⟨⟨by omega, by omega⟩, ⟨⟨by omega, by omega⟩, ⟨by omega, by omega⟩⟩, fun _ => K, fun h => by omega⟩
  | succ t ih =>
    intro i hi
    have v := h.vs i (by omega)
    refine s276_4 ?_
    rw [h.sz]
    refine ⟨⟨by omega, by omega⟩, ⟨⟨by omega, by omega⟩, ⟨by omega, by omega⟩⟩, fun h => by omega, fun _ => sp_triedAt h (by omega) (s276_21 ⟨⟨by omega, by omega⟩, ?_⟩)⟩
    have nx := ih (i + 1) (by omega)
    have hil : i < (mxs M R).length := by omega
    have hg : (mxs M R)[i] = (mxs M R).getD i 0 := by
      rw [List.getD_eq_getElem?_getD, List.getElem?_eq_getElem hil]
      rfl
    rw [List.take_succ_eq_append_getElem hil, onB_snoc, List.length_take, show min i (mxs M R).length = i by omega, hg] at nx
    obtain ⟨l1, l2⟩ := take_lt h i
    rw [show ((i + 1 : Nat) : Int) = (i : Int) + 1 by omega] at nx
    by_cases hx : (mxs M R).getD i 0 = 1
    · rw [if_pos hx] at nx ⊢
      have e := or_add ⟨_, l1⟩ ⟨i, by omega⟩ l2
      simp only at e
      rw [e]
      exact nx
    · rw [if_neg hx] at nx ⊢
      have e := or_zero ⟨_, l1⟩
      simp only at e
      rw [e]
      rw [Nat.add_zero] at nx
      exact nx
theorem sp_areBeside {a b : Int} (hw : M 146 0 = Z.1) (h1 : 1 ≤ Z.1 ∧ Z.1 ≤ 3) (ha : 0 ≤ a ∧ a < 9) (hb : 0 ≤ b ∧ b < 9) (K : Q (some (jI (bI (bes Z.1 a b)))) M) : wc kc (d + 1) 277 [jR 133, jI a, jI b] M Q := by
  obtain ⟨y1, y2, y3, y4, y5, y6, y7⟩ := awy_b h1 ha hb
  refine s277 ?_
  rw [hw]
  have sq : ∀ x : Int, -10 ≤ x → x ≤ 10 → 0 ≤ x * x ∧ x * x ≤ 100 := fun x x0 x1 => by
    have h : ∀ n : Fin 21, 0 ≤ (((n : Nat) : Int) - 10) * (((n : Nat) : Int) - 10) ∧ (((n : Nat) : Int) - 10) * (((n : Nat) : Int) - 10) ≤ 100 := by decide
    have := h ⟨(x + 10).toNat, by omega⟩
    simp only at this
    rwa [show (((x + 10).toNat : Nat) : Int) - 10 = x by omega] at this
  have q1 := sq _ y4 y5
  have q2 := sq _ y6 y7
  unfold bI bes at K
  simp only [decide_eq_true_eq] at K
  refine ⟨⟨⟨by omega, by omega⟩, ⟨by omega, by omega⟩⟩, ⟨⟨by omega, by omega⟩, ⟨by omega, by omega⟩⟩, ⟨⟨by omega, by omega⟩, ⟨by omega, by omega⟩⟩, ⟨⟨by omega, by omega⟩, ⟨by omega, by omega⟩⟩, ⟨by omega, by omega⟩, ?_, K⟩
  split <;> omega
/-- of some places those below k -/
def lowk (b set k : Nat) : Nat := b &&& set &&& (2 ^ k - 1)
theorem lowk_bit {b set k i : Nat} : (lowk b set k).testBit i = (b.testBit i && set.testBit i && decide (i < k)) := by
  unfold lowk
  rw [Nat.testBit_and, Nat.testBit_and, Nat.testBit_two_pow_sub_one]
theorem join_in (h : mrl M Z R r) {i : Nat} (hi : i < R.2.2.length) {v4 : Int} {r0 : Nat} (hr0 : r0 < 16) (K : ∀ r1 : Nat, r1 = r0 ||| (lnB Z.1 R.2.2 i &&& onB (mxs M R)) → wp kc (d + 2) 276 57 [some (jR 133), some (jI r), some (jI (onB (mxs M R) : Nat)), some (jI r1), some (jI v4), some (jI ((i : Int) + 1)), none] [] M Q) : ∀ (t j : Nat) (r1 : Nat), j + t = R.2.2.length → r1 = r0 ||| lowk (lnB Z.1 R.2.2 i) (onB (mxs M R)) j → wp kc (d + 2) 276 83 [some (jR 133), some (jI r), some (jI (onB (mxs M R) : Nat)), some (jI r1), some (jI v4), some (jI i), some (jI j)] [] M Q := by
  have hl4 := h.ok.2.2.2.2.2.1
  have hr := h.r12
  have hl := mxs_len (M := M) (R := R)
  have m16 := mxs_lt h
  have b16 := lnB_lt (w := Z.1) (l := R.2.2) (i := i) hl4
  have lnb : ∀ j : Nat, j < R.2.2.length → (lnB Z.1 R.2.2 i).testBit j = bes Z.1 (R.2.2.getD i 0) (R.2.2.getD j 0) := fun j hj => by
    unfold lnB
    rw [if_pos hi, onB_bit]
    rw [List.length_map, List.getD_eq_getElem?_getD, List.getElem?_map, List.getD_eq_getElem?_getD (l := R.2.2) (i := j), List.getElem?_eq_getElem hj]
    simp only [Option.map_some, Option.getD_some]
    rw [decide_eq_true hj]
    by_cases hbb : bes Z.1 (R.2.2.getD i 0) R.2.2[j] = true <;> simp [hbb]
  have klt : ∀ j : Nat, lowk (lnB Z.1 R.2.2 i) (onB (mxs M R)) j < 16 := fun j => Nat.lt_of_le_of_lt Nat.and_le_left (Nat.lt_of_le_of_lt Nat.and_le_left b16)
  intro t
  induction t with
  | zero =>
    intro j r1 hj e
    refine s276_83 ?_
    rw [h.sz]
    refine ⟨⟨by omega, by omega⟩, ⟨⟨by omega, by omega⟩, ⟨by omega, by omega⟩⟩, fun _ => K r1 ?_, fun h => by omega⟩
    rw [e]
    congr 1
    refine Nat.eq_of_testBit_eq (fun x => ?_)
    rw [lowk_bit, Nat.testBit_and]
    by_cases hx : x < j
    · simp [hx]
    · have : (onB (mxs M R)).testBit x = false := by
        rw [onB_bit, decide_eq_false (by omega)]
        rfl
      rw [this]
      simp
  | succ t ih =>
    intro j r1 hj e
    have e1 : ((j + 1 : Nat) : Int) = (j : Int) + 1 := by omega
    have r1l : r1 < 16 := by
      rw [e]
      exact or16 hr0 (klt j)
    have eb := sm_bit ⟨_, m16⟩ ⟨j, by omega⟩
    simp only at eb
    obtain ⟨ci, ci0, ci9⟩ := h.cl i hi
    obtain ⟨cj, cj0, cj9⟩ := h.cl j (by omega)
    have ebb : 0 ≤ (if (onB (mxs M R)).testBit j = true then (1 : Int) else 0) ∧ (if (onB (mxs M R)).testBit j = true then (1 : Int) else 0) ≤ 1 := by split <;> omega
    refine s276_83 ?_
    rw [h.sz, eb, ci, cj]
    refine ⟨⟨by omega, by omega⟩, ⟨⟨by omega, by omega⟩, ⟨by omega, by omega⟩⟩, fun h => by omega, fun _ => ⟨⟨by omega, by omega⟩, fun hn => ?_, fun hy => ⟨⟨by omega, by omega⟩, ⟨by omega, by omega⟩, sp_areBeside h.wd h.w1 ⟨ci0, ci9⟩ ⟨cj0, cj9⟩ (s276_130 ⟨?_, ?_⟩)⟩⟩⟩
    · have hb : (onB (mxs M R)).testBit j = false := by
        cases hx : (onB (mxs M R)).testBit j
        · rfl
        · rw [hx, if_pos rfl] at hn
          exact absurd rfl hn
      have nx := ih (j + 1) r1 (by omega) (by
        rw [e]
        congr 1
        refine Nat.eq_of_testBit_eq (fun x => ?_)
        rw [lowk_bit, lowk_bit]
        by_cases hx : x = j
        · rw [hx, hb]
          simp
        · congr 1
          simp
          omega)
      rw [e1] at nx
      exact nx
    · unfold bI
      split <;> exact ⟨by omega, by omega⟩
    · have hb : (onB (mxs M R)).testBit j = true := by
        cases hx : (onB (mxs M R)).testBit j
        · rw [hx, if_neg (by decide)] at hy
          omega
        · rfl
      have hln := lnb j (by omega)
      cases hbe : bes Z.1 (R.2.2.getD i 0) (R.2.2.getD j 0)
      · rw [hbe] at hln
        have nx := ih (j + 1) r1 (by omega) (by
          rw [e]
          congr 1
          refine Nat.eq_of_testBit_eq (fun x => ?_)
          rw [lowk_bit, lowk_bit]
          by_cases hx : x = j
          · rw [hx, hln]
            simp
          · congr 1
            simp
            omega)
        rw [e1] at nx
        exact nx
      · rw [hbe] at hln
        have ep := shl_one ⟨j, by omega⟩
        simp only at ep
        have p16 : 2 ^ j < 16 := Nat.pow_lt_pow_right (by decide) (show j < 4 by omega)
        have eo := sm_or ⟨_, r1l⟩ ⟨_, p16⟩
        simp only at eo
        have nx := ih (j + 1) (r1 ||| 2 ^ j) (by omega) (by
          rw [e, Nat.or_assoc]
          congr 1
          refine Nat.eq_of_testBit_eq (fun x => ?_)
          rw [Nat.testBit_or, lowk_bit, lowk_bit, pow_bit]
          by_cases hx : x = j
          · rw [hx, hln, hb]
            simp
          · rw [decide_eq_false hx, Bool.or_false]
            congr 1
            simp
            omega)
        show wp kc (d + 2) 276 83 [some (jR 133), some (jI r), some (jI (onB (mxs M R) : Nat)), some (jI (if bI true = 0 then (r1 : Int) else fx_or (r1 : Int) (fx_shl 1 (j : Int)))), some (jI v4), some (jI i), some (jI ((j : Int) + 1))] [] M Q
        rw [if_neg (by decide), ep, eo]
        rw [e1] at nx
        exact nx
theorem join_mid (h : mrl M Z R r) {v4 : Int} : ∀ (t i r0 : Nat), i + t = R.2.2.length → r0 < 16 → wp kc (d + 2) 276 48 [some (jR 133), some (jI r), some (jI (onB (mxs M R) : Nat)), some (jI (hgI (lnB Z.1 R.2.2) (onB (mxs M R)) t i r0 : Nat)), some (jI (v4 + 1)), none, none] [] M Q → wp kc (d + 2) 276 57 [some (jR 133), some (jI r), some (jI (onB (mxs M R) : Nat)), some (jI r0), some (jI v4), some (jI i), none] [] M Q := by
  have hl4 := h.ok.2.2.2.2.2.1
  have hr := h.r12
  intro t
  induction t with
  | zero =>
    intro i r0 hi hr0 K
    refine s276_57 ?_
    rw [h.sz]
    exact ⟨⟨by omega, by omega⟩, ⟨⟨by omega, by omega⟩, ⟨by omega, by omega⟩⟩, fun _ => K, fun h => by omega⟩
  | succ t ih =>
    intro i r0 hi hr0 K
    have eb := sm_bit ⟨_, hr0⟩ ⟨i, by omega⟩
    simp only at eb
    have ebb : 0 ≤ (if r0.testBit i = true then (1 : Int) else 0) ∧ (if r0.testBit i = true then (1 : Int) else 0) ≤ 1 := by split <;> omega
    have e1 : ((i + 1 : Nat) : Int) = (i : Int) + 1 := by omega
    unfold hgI at K
    refine s276_57 ?_
    rw [h.sz, eb]
    refine ⟨⟨by omega, by omega⟩, ⟨⟨by omega, by omega⟩, ⟨by omega, by omega⟩⟩, fun h => by omega, fun _ => ⟨⟨by omega, by omega⟩, fun hy => ?_, fun hn => ?_⟩⟩
    · have hb : r0.testBit i = true := by
        cases hx : r0.testBit i
        · rw [hx, if_neg (by decide)] at hy
          exact absurd rfl hy
        · rfl
      rw [if_pos hb] at K
      have b16 := lnB_lt (w := Z.1) (l := R.2.2) (i := i) hl4
      refine join_in h (by omega) hr0 (fun r1 e => ?_) R.2.2.length 0 r0 (by omega) ?_
      · have nx := ih (i + 1) r1 (by omega) (by
          rw [e]
          exact or16 hr0 (Nat.lt_of_le_of_lt Nat.and_le_left b16)) (by
          rw [e]
          exact K)
        rw [e1] at nx
        exact nx
      · have : lowk (lnB Z.1 R.2.2 i) (onB (mxs M R)) 0 = 0 := by
          unfold lowk
          simp
        rw [this, Nat.or_zero]
    · have hb : ¬ r0.testBit i = true := fun hx => by
        rw [hx, if_pos rfl] at hn
        omega
      rw [if_neg hb] at K
      have nx := ih (i + 1) r0 (by omega) hr0 K
      rw [e1] at nx
      exact nx
/-- isJoined -/
theorem sp_isJoined (h : mrl M Z R r) (K : Q (some (jI (bI (hgs (lnB Z.1 R.2.2) (onB (mxs M R)))))) M) : wc kc (d + 2) 276 [jR 133, jI r] M Q := by
  have hl4 := h.ok.2.2.2.2.2.1
  have m16 := mxs_lt h
  have q0 : onB (mxs M R) &&& (16 - onB (mxs M R)) < 16 := Nat.lt_of_le_of_lt Nat.and_le_left m16
  have hn : ∀ r0 : Nat, hgI (lnB Z.1 R.2.2) (onB (mxs M R)) R.2.2.length 0 r0 = hgI (lnB Z.1 R.2.2) (onB (mxs M R)) 4 0 r0 := fun r0 => by
    have := hgI_n (b := lnB Z.1 R.2.2) (set := onB (mxs M R)) R.2.2.length 0 r0 (4 - R.2.2.length) (fun i hi => by
      unfold lnB
      rw [if_neg (by omega)])
    rw [show R.2.2.length + (4 - R.2.2.length) = 4 by omega] at this
    exact this.symm
  have p1 := pop4_1 ⟨_, m16⟩
  simp only at p1
  have fx := hgI_fix (b := lnB Z.1 R.2.2) m16 q0 p1 (fun hz => by
    rw [hz]
    rfl)
  have q1 := hgI_lt (b := lnB Z.1 R.2.2) m16 4 0 _ q0
  have q2 := hgI_lt (b := lnB Z.1 R.2.2) m16 4 0 _ q1
  have q3 := hgI_lt (b := lnB Z.1 R.2.2) m16 4 0 _ q2
  have hgd : hgs (lnB Z.1 R.2.2) (onB (mxs M R)) = (hgI (lnB Z.1 R.2.2) (onB (mxs M R)) 4 0 (hgI (lnB Z.1 R.2.2) (onB (mxs M R)) 4 0 (hgI (lnB Z.1 R.2.2) (onB (mxs M R)) 4 0 (onB (mxs M R) &&& (16 - onB (mxs M R))))) == onB (mxs M R)) := rfl
  refine s276 (ones_loop h ?_ R.2.2.length 0 (by omega))
  refine s276_48 ⟨⟨by omega, by omega⟩, fun h => by omega, fun _ => join_mid h R.2.2.length 0 _ (by omega) q0 ?_⟩
  rw [hn]
  refine s276_48 ⟨⟨by omega, by omega⟩, fun h => by omega, fun _ => join_mid h R.2.2.length 0 _ (by omega) q1 ?_⟩
  rw [hn]
  refine s276_48 ⟨⟨by omega, by omega⟩, fun h => by omega, fun _ => join_mid h R.2.2.length 0 _ (by omega) q2 ?_⟩
  rw [hn]
  refine s276_48 ⟨⟨by omega, by omega⟩, fun h => by omega, fun _ => join_mid h R.2.2.length 0 _ (by omega) q3 ?_⟩
  rw [hn, fx]
  refine s276_48 ⟨⟨by omega, by omega⟩, fun _ => ⟨⟨by omega, by omega⟩, ⟨by omega, by omega⟩, by split <;> omega, ?_⟩, fun h => by omega⟩
  rw [hgd] at K
  by_cases hq : hgI (lnB Z.1 R.2.2) (onB (mxs M R)) 4 0 (hgI (lnB Z.1 R.2.2) (onB (mxs M R)) 4 0 (hgI (lnB Z.1 R.2.2) (onB (mxs M R)) 4 0 (onB (mxs M R) &&& (16 - onB (mxs M R))))) = onB (mxs M R)
  · rw [hq]
    rw [hq, beq_self_eq_true] at K
    rw [if_pos rfl]
    exact K
  · rw [if_neg (by omega)]
    rw [beq_eq_false_iff_ne.mpr hq] at K
    exact K
end MJN
