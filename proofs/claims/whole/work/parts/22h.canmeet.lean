/-! canMeet of the class. -/
theorem kA0 {L : Nat} {xs : Nat → Int32} : (kcs L xs)[1000183 - lx_K]? = some (.inl (2, 16, .inr (.inl (fun i => xA0.getD i 0)))) := rfl
theorem kA1 {L : Nat} {xs : Nat → Int32} : (kcs L xs)[1000184 - lx_K]? = some (.inl (2, 16, .inr (.inl (fun i => xA1.getD i 0)))) := rfl
theorem kA2 {L : Nat} {xs : Nat → Int32} : (kcs L xs)[1000185 - lx_K]? = some (.inl (2, 16, .inr (.inl (fun i => xA2.getD i 0)))) := rfl
/-- whether a rule has one of some cells -/
def tch (R : PR) (t : Nat) : Bool := decide (nar R.2.2 &&& t ≠ 0)
/-- whether each rule that has one of some cells can be met -/
def canA (Z : PZ) (S : Nat → Nat) (t : Nat) : Bool := Z.2.2.2.1.all fun R => !tch R t || canM Z.1 R S
/-- all ways are known -/
def ckn (M : fx_M) (p : Nat) (Z : PZ) : Prop := cz M p Z ∧ M p 12 = Z.2.2.2.1.length
theorem ckn_wy {M : fx_M} {p : Nat} {Z : PZ} (h : ckn M p Z) {r : Nat} {R : PR} (hR : Z.2.2.2.1[r]? = some R) : ∀ k : Nat, k < 4 → wy_ok Z.1 Z.2.2.1 R k (M (p + 7) (4 * (r : Int) + k)) := fun k hk => by
  have := (List.getElem?_eq_some_iff.mp hR).1
  exact h.1.2.2.2.2.2.2.2.2.2 r R hR (by rw [h.2]; omega) k hk
theorem fx_and_nn {x y : Nat} (hx : x < 2147483648) (hy : y < 2147483648) : fx_and (x : Int) (y : Int) = ((x &&& y : Nat) : Int) := by
  rw [fx_and_nat, Int.emod_eq_of_lt (by omega) (by omega), Int.emod_eq_of_lt (by omega) (by omega), Int.toNat_natCast, Int.toNat_natCast]
  have : x &&& y ≤ x := Nat.and_le_left
  exact fx_bmod (by
    show 2 * (x &&& y) < 2 ^ 32
    omega)
theorem nar_9 {n : Int} {R : PR} (hR : pr_ok n R) (hn : n ≤ 9) : nar R.2.2 < 512 := by
  have h : ∀ (l : List Int) (a : Nat), (∀ c ∈ l, 0 ≤ c ∧ c < 9) → a < 512 → l.foldl (fun a c => a ||| 2 ^ c.toNat) a < 512 := by
    intro l
    induction l with
    | nil => intro a _ ha; exact ha
    | cons c t ih =>
      intro a hc ha
      refine ih _ (fun x hx => hc x (List.mem_cons_of_mem _ hx)) ?_
      have := hc c List.mem_cons_self
      exact Nat.or_lt_two_pow (n := 9) ha (Nat.pow_lt_pow_right (by decide) (by omega))
  exact h _ 0 (fun c hc => by have := hR.2.2.2.2.2.2.1 c hc; omega) (by decide)
section CAN
variable {L : Nat} {xs : Nat → Int32} {d p : Nat} {M : fx_M} {Q : Option fx_V → fx_M → Prop} {Z : PZ} {S : Nat → Nat}
theorem can_in {R : PR} {r : Nat} (Hp : fx_puz p) (hc : ckn M p Z) (ho : pz_ok Z) (hs : s_ok Z S) (hR : Z.2.2.2.1[r]? = some R) {x t : Int} : ∀ (n k : Nat) (v9 : Int), k + n = 4 → fx_in64 v9 → (v9 ≠ 0 → 0 < k) → ((v9 ≠ 0 ∨ ∃ i, k ≤ i ∧ i < 4 ∧ wyk M p S R r i ≠ 0) → wp (kcs L xs) (d + 1) 88 3 [some (jR p), some (jL x), none, some (jI t), some (jI ((r : Int) + 1)), none, none, none, none, none, none, none] [] M Q) → (¬ (v9 ≠ 0 ∨ ∃ i, k ≤ i ∧ i < 4 ∧ wyk M p S R r i ≠ 0) → Q (some (jI 0)) M) → wp (kcs L xs) (d + 1) 88 120 [some (jR p), some (jL x), none, some (jI t), some (jI r), some (jI (4 * (r : Int))), some (jL (wthn (mki S R.2.2 0) (mki S R.2.2 1) (mki S R.2.2 2))), none, some (jI (mki S R.2.2 3 : Nat)), some (jL v9), none, some (jI k)] [] M Q := by
  obtain ⟨hRo, hr12⟩ := rule_in ho hR
  have m3 := mki_16 ho hs hRo 3
  intro n
  induction n with
  | zero =>
    intro k v9 hk hv _ K1 K0
    refine s88_120 Hp ⟨⟨by omega, by omega⟩, fun _ => ⟨hv, fun h => K1 (Or.inl ?_), fun h => K0 ?_⟩, fun h => by omega⟩
    · intro h0
      exact h ((cmp0 hv).mpr h0)
    · rintro (h1 | ⟨i, h1, h2, _⟩)
      · exact h1 ((cmp0 hv).mp h)
      · omega
  | succ n ih =>
    intro k v9 hk hv hvk K1 K0
    have e := sm_bit ⟨mki S R.2.2 3, m3⟩ ⟨k, by omega⟩
    simp only at e
    have eb : 0 ≤ (if (mki S R.2.2 3).testBit k = true then (1 : Int) else 0) ∧ (if (mki S R.2.2 3).testBit k = true then (1 : Int) else 0) ≤ 1 := by split <;> omega
    refine s88_120 Hp ⟨⟨by omega, by omega⟩, fun h => by omega, fun _ => ⟨hv, fun h => ⟨hv, fun _ => K1 (Or.inl ?_), fun h2 => absurd h2 h⟩, fun h => ?_⟩⟩
    · intro h0
      exact h ((cmp0 hv).mpr h0)
    · rw [e]
      refine ⟨⟨by omega, by omega⟩, fun _ => ⟨by omega, by omega⟩, ?_⟩
      have hw : (if (if (mki S R.2.2 3).testBit k = true then (1 : Int) else 0) = 0 then (0 : Int) else fx_land (M (p + 7) (4 * (r : Int) + (k : Int))) (wthn (mki S R.2.2 0) (mki S R.2.2 1) (mki S R.2.2 2))) = wyk M p S R r k := by
        unfold wyk
        by_cases hb : (mki S R.2.2 3).testBit k = true
        · rw [if_pos hb, if_pos hb, if_neg (by decide)]
        · rw [if_neg hb, if_neg hb, if_pos rfl]
      rw [hw]
      have v0 : v9 = 0 := (cmp0 hv).mp h
      have nx := ih (k + 1) (wyk M p S R r k) (by omega) wyk_in (fun _ => by omega) (fun hx => K1 (Or.inr ?_)) (fun hx => K0 ?_)
      · rw [show ((k + 1 : Nat) : Int) = (k : Int) + 1 by omega] at nx
        exact nx
      · rcases hx with hx | ⟨i, i1, i2, i3⟩
        · exact ⟨k, by omega, by omega, hx⟩
        · exact ⟨i, by omega, i2, i3⟩
      · rintro (h1 | ⟨i, i1, i2, i3⟩)
        · exact h1 v0
        · apply hx
          by_cases hik : i = k
          · rw [hik] at i3
            exact Or.inl i3
          · exact Or.inr ⟨i, by omega, i2, i3⟩
theorem can_loop (Hp : fx_puz p) (hc : ckn M p Z) (ho : pz_ok Z) (hs : s_ok Z S) {x : Int} (hx : sta x S) {t : Nat} (ht : t < 512) : ∀ (n r : Nat), r + n = Z.2.2.2.1.length → Q (some (jI (bI ((Z.2.2.2.1.drop r).all fun R => !tch R t || canM Z.1 R S)))) M → wp (kcs L xs) (d + 1) 88 3 [some (jR p), some (jL x), none, some (jI t), some (jI r), none, none, none, none, none, none, none] [] M Q := by
  have o7 := ho.2.2.2.2.2.2.1
  have h9 := pz_n ho
  intro n
  induction n with
  | zero =>
    intro r hr K
    refine s88_3 Hp ?_
    rw [hc.1.2.2.2.2.1]
    refine ⟨⟨⟨by omega, by omega⟩, ⟨by omega, by omega⟩⟩, fun _ => ?_, fun h => by omega⟩
    rw [List.drop_of_length_le (by omega)] at K
    exact K
  | succ n ih =>
    intro r hr K
    have hrl : r < Z.2.2.2.1.length := by omega
    have hR : Z.2.2.2.1[r]? = some Z.2.2.2.1[r] := List.getElem?_eq_getElem hrl
    rw [List.drop_eq_getElem_cons hrl, List.all_cons] at K
    generalize hRR : Z.2.2.2.1[r] = R at hR K
    obtain ⟨hRo, hr12⟩ := rule_in ho hR
    obtain ⟨a1, a2, a3, a4, a5⟩ := hc.1.2.2.2.2.2.1 r R hR
    have harea := area_nar (l := R.2.2) (fun c hcm => by have := hRo.2.2.2.2.2.2.1 c hcm; omega)
    have n9 := nar_9 hRo h9.2
    have e1 : ((r + 1 : Nat) : Int) = (r : Int) + 1 := by omega
    have hand : nar R.2.2 &&& t ≤ t := Nat.and_le_right
    have ci : ∀ i : Nat, i < 4 → 0 ≤ R.2.2.getD i 9 ∧ R.2.2.getD i 9 < 10 := fun i hi => by
      by_cases hil : i < R.2.2.length
      · have hm : R.2.2.getD i 9 ∈ R.2.2 := by
          rw [List.getD_eq_getElem?_getD, List.getElem?_eq_getElem hil]
          exact List.getElem_mem hil
        have := hRo.2.2.2.2.2.2.1 _ hm
        omega
      · rw [List.getD_eq_getElem?_getD, List.getElem?_eq_none (by omega)]
        decide
    have my : ∀ i : Nat, i < 4 → fx_and (fx_lushr x (4 * R.2.2.getD i 9)) 15 = (mki S R.2.2 i : Nat) := fun i hi => sta_may hx (ci i hi) (mki_16 ho hs hRo i)
    have c0 := a4 0 (by decide)
    have c1 := a4 1 (by decide)
    have c2 := a4 2 (by decide)
    have c3 := a4 3 (by decide)
    rw [show 4 * (r : Int) + ((0 : Nat) : Int) = 4 * (r : Int) by omega] at c0
    rw [show ((1 : Nat) : Int) = 1 by rfl] at c1
    rw [show ((2 : Nat) : Int) = 2 by rfl] at c2
    rw [show ((3 : Nat) : Int) = 3 by rfl] at c3
    have m0 := mki_16 ho hs hRo 0
    have m1 := mki_16 ho hs hRo 1
    have m2 := mki_16 ho hs hRo 2
    refine s88_3 Hp ?_
    rw [hc.1.2.2.2.2.1, a5, harea.1, fx_and_nn (by omega) (by omega), c0, c1, c2, c3, my 0 (by decide), my 1 (by decide), my 2 (by decide), my 3 (by decide)]
    refine ⟨⟨⟨by omega, by omega⟩, ⟨by omega, by omega⟩⟩, fun h => by omega, fun _ => ⟨⟨by omega, by omega⟩, ⟨by omega, by omega⟩, fun hz => ?_, fun hnz => ⟨⟨by omega, by omega⟩, ⟨⟨by omega, by omega⟩, kA0⟩, ⟨by omega, by omega⟩, ⟨⟨by omega, by omega⟩, kA1⟩, ⟨by omega, by omega⟩, ⟨⟨by omega, by omega⟩, kA2⟩, ⟨by omega, by omega⟩, ?_⟩⟩⟩
    · have ht0 : tch R t = false := by
        unfold tch
        simp only [decide_eq_false_iff_not, Decidable.not_not]
        omega
      rw [ht0, Bool.not_false, Bool.true_or, Bool.true_and] at K
      have nx := ih (r + 1) (by omega) K
      rw [e1] at nx
      exact nx
    · have ht1 : tch R t = true := by
        unfold tch
        simp only [decide_eq_true_eq]
        omega
      rw [ht1, Bool.not_true, Bool.false_or] at K
      have hcan := wyk_can (M := M) (p := p) (S := S) (r := r) ho hs hRo (ckn_wy hc hR)
      refine can_in Hp hc ho hs hR 4 0 0 (by omega) ⟨by omega, by omega⟩ (fun h => absurd rfl h) (fun h => ?_) (fun h => ?_)
      · rcases h with h | ⟨i, i1, i2, i3⟩
        · exact absurd rfl h
        · rw [hcan.mpr ⟨i, i2, i3⟩, Bool.true_and] at K
          have nx := ih (r + 1) (by omega) K
          rw [e1] at nx
          exact nx
      · have hf : canM Z.1 R S = false := by
          cases hb : canM Z.1 R S
          · rfl
          · obtain ⟨i, i2, i3⟩ := hcan.mp hb
            exact absurd (Or.inr ⟨i, by omega, i2, i3⟩) h
        rw [hf, Bool.false_and] at K
        exact K
/-- canMeet -/
theorem sp_canMeet {x : Int} {t : Nat} (Hp : fx_puz p) (hc : ckn M p Z) (ho : pz_ok Z) (hs : s_ok Z S) (hx : sta x S) (ht : t < 512) (K : Q (some (jI (bI (canA Z S t)))) M) : wc (kcs L xs) (d + 1) 88 [jR p, jL x, jI t] M Q :=
  s88 Hp (can_loop Hp hc ho hs hx ht Z.2.2.2.1.length 0 (by omega) K)
end CAN
