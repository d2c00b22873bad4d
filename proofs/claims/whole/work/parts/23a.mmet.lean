/-! isMet of the reference. -/
theorem adA_iff {P : Int → Int → Bool} : ∀ {l : List Int}, adA P l = true ↔ ∀ i : Nat, i + 1 < l.length → P (l.getD i 0) (l.getD (i + 1) 0) = true
  | [] => by simp [adA]
  | [_] => by simp [adA]
  | a :: b :: t => by
    have ih := adA_iff (P := P) (l := b :: t)
    unfold adA
    rw [Bool.and_eq_true, ih]
    constructor
    · rintro ⟨h1, h2⟩ i hi
      cases i with
      | zero => exact h1
      | succ i => exact h2 i (by simpa using hi)
    · intro h
      exact ⟨h 0 (by simp), fun i hi => h (i + 1) (by simpa using hi)⟩
theorem nodup_iff {l : List Int} : l.Nodup ↔ ∀ i j : Nat, i < l.length → j < i → l.getD i 0 ≠ l.getD j 0 := by
  unfold List.Nodup
  rw [List.pairwise_iff_getElem]
  have hg : ∀ {i : Nat} (h : i < l.length), l.getD i 0 = l[i] := fun {i} h => by
    rw [List.getD_eq_getElem?_getD, List.getElem?_eq_getElem h]
    rfl
  constructor
  · intro h i j hi hj
    rw [hg hi, hg (by omega)]
    exact fun e => h j i (by omega) hi hj e.symm
  · intro h i j hi hj hij
    have := h j i hj hij
    rw [hg hj, hg hi] at this
    exact fun e => this e.symm
/-- passes of 4 places end within three -/
def pop4 (r : Nat) : Nat := ((List.range 4).filter r.testBit).length
theorem pop4_lt : ∀ a b : Fin 16, (a : Nat) ||| (b : Nat) = (b : Nat) → (a : Nat) ≠ (b : Nat) → pop4 a < pop4 b := by decide +kernel
theorem pop4_4 : ∀ a b : Fin 16, 4 ≤ pop4 a → (a : Nat) ||| (b : Nat) = (b : Nat) → (a : Nat) = (b : Nat) := by decide +kernel
theorem pop4_1 : ∀ a : Fin 16, (a : Nat) ≠ 0 → 1 ≤ pop4 ((a : Nat) &&& (16 - (a : Nat))) := by decide +kernel
theorem or_sub_or {a b c : Nat} (h : a ||| b = b) : a ||| (b ||| c) = b ||| c := by rw [← Nat.or_assoc, h]
theorem hgI_sub {b : Nat → Nat} {set : Nat} : ∀ (t k r a : Nat), a ||| r = r → a ||| hgI b set t k r = hgI b set t k r
  | 0, k, r, a, h => h
  | t + 1, k, r, a, h => by
    unfold hgI
    refine hgI_sub t (k + 1) _ a ?_
    split
    · exact or_sub_or h
    · exact h
theorem hgI_fix {b : Nat → Nat} {set : Nat} (hs : set < 16) {r0 : Nat} (h0 : r0 < 16) (h1 : set ≠ 0 → 1 ≤ pop4 r0) (hz : set = 0 → r0 = 0) : hgI b set 4 0 (hgI b set 4 0 (hgI b set 4 0 (hgI b set 4 0 r0))) = hgI b set 4 0 (hgI b set 4 0 (hgI b set 4 0 r0)) := by
  have l1 := hgI_lt (b := b) hs 4 0 _ h0
  have l2 := hgI_lt (b := b) hs 4 0 _ l1
  have l3 := hgI_lt (b := b) hs 4 0 _ l2
  have l4 := hgI_lt (b := b) hs 4 0 _ l3
  have s1 := hgI_sub (b := b) (set := set) 4 0 r0 r0 (Nat.or_self _)
  have s2 := hgI_sub (b := b) (set := set) 4 0 (hgI b set 4 0 r0) (hgI b set 4 0 r0) (Nat.or_self _)
  have s3 := hgI_sub (b := b) (set := set) 4 0 (hgI b set 4 0 (hgI b set 4 0 r0)) (hgI b set 4 0 (hgI b set 4 0 r0)) (Nat.or_self _)
  have s4 := hgI_sub (b := b) (set := set) 4 0 (hgI b set 4 0 (hgI b set 4 0 (hgI b set 4 0 r0))) (hgI b set 4 0 (hgI b set 4 0 (hgI b set 4 0 r0))) (Nat.or_self _)
  by_cases hset : set = 0
  · have hr := hz hset
    subst hset hr
    have : ∀ t k : Nat, hgI b 0 t k 0 = 0 := by
      intro t
      induction t with
      | zero => intro k; rfl
      | succ t ih =>
        intro k
        unfold hgI
        rw [Nat.zero_testBit, if_neg (by decide)]
        exact ih _
    rw [this, this, this, this]
  · have hp := h1 hset
    by_cases e1 : r0 = hgI b set 4 0 r0
    · rw [← e1, ← e1, ← e1, ← e1]
    · by_cases e2 : hgI b set 4 0 r0 = hgI b set 4 0 (hgI b set 4 0 r0)
      · rw [← e2, ← e2, ← e2]
      · by_cases e3 : hgI b set 4 0 (hgI b set 4 0 r0) = hgI b set 4 0 (hgI b set 4 0 (hgI b set 4 0 r0))
        · rw [← e3, ← e3]
        · have p1 := pop4_lt ⟨_, h0⟩ ⟨_, l1⟩ s1 e1
          have p2 := pop4_lt ⟨_, l1⟩ ⟨_, l2⟩ s2 e2
          have p3 := pop4_lt ⟨_, l2⟩ ⟨_, l3⟩ s3 e3
          simp only at p1 p2 p3
          exact (pop4_4 ⟨_, l3⟩ ⟨_, l4⟩ (by simp only; omega) s4).symm
/-- the symbols of a rule's cells in the reference -/
def mxs (M : fx_M) (R : PR) : List Int := R.2.2.map (M 155)
section MMT
variable {kc : List va_E} {d : Nat} {M : fx_M} {Q : Option fx_V → fx_M → Prop} {Z : PZ} {R : PR} {r : Nat}
theorem mxs_get (i : Nat) (hi : i < R.2.2.length) : (mxs M R).getD i 0 = M 155 (R.2.2.getD i 0) := by
  unfold mxs
  rw [List.getD_eq_getElem?_getD, List.getElem?_map, List.getD_eq_getElem?_getD, List.getElem?_eq_getElem hi]
  rfl
/-- what a rule is in the reference's memory -/
def mrl (M : fx_M) (Z : PZ) (R : PR) (r : Nat) : Prop := pr_ok (Z.1 * Z.2.1) R ∧ r < 12 ∧ M 146 0 = Z.1 ∧ (1 ≤ Z.1 ∧ Z.1 ≤ 3) ∧ M 150 (r : Int) = piK.getD R.1.toNat 0 ∧ M 151 (r : Int) = R.2.1 ∧ M 152 (r : Int) = R.2.2.length ∧ (∀ i : Nat, i < R.2.2.length → M 153 (4 * (r : Int) + i) = R.2.2.getD i 0 ∧ 0 ≤ R.2.2.getD i 0 ∧ R.2.2.getD i 0 < 9) ∧ (∀ i : Nat, i < R.2.2.length → 0 ≤ (mxs M R).getD i 0 ∧ (mxs M R).getD i 0 ≤ 3)
theorem mrl.ok (h : mrl M Z R r) : pr_ok (Z.1 * Z.2.1) R := h.1
theorem mrl.r12 (h : mrl M Z R r) : r < 12 := h.2.1
theorem mrl.wd (h : mrl M Z R r) : M 146 0 = Z.1 := h.2.2.1
theorem mrl.w1 (h : mrl M Z R r) : 1 ≤ Z.1 ∧ Z.1 ≤ 3 := h.2.2.2.1
theorem mrl.kd (h : mrl M Z R r) : M 150 (r : Int) = piK.getD R.1.toNat 0 := h.2.2.2.2.1
theorem mrl.nm (h : mrl M Z R r) : M 151 (r : Int) = R.2.1 := h.2.2.2.2.2.1
theorem mrl.sz (h : mrl M Z R r) : M 152 (r : Int) = R.2.2.length := h.2.2.2.2.2.2.1
theorem mrl.cl (h : mrl M Z R r) : ∀ i : Nat, i < R.2.2.length → M 153 (4 * (r : Int) + i) = R.2.2.getD i 0 ∧ 0 ≤ R.2.2.getD i 0 ∧ R.2.2.getD i 0 < 9 := h.2.2.2.2.2.2.2.1
theorem mrl.vs (h : mrl M Z R r) : ∀ i : Nat, i < R.2.2.length → 0 ≤ (mxs M R).getD i 0 ∧ (mxs M R).getD i 0 ≤ 3 := h.2.2.2.2.2.2.2.2
theorem mrl_of (ho : pz_ok Z) (hz : mz M 0 Z) (hR : Z.2.2.2.1[r]? = some R) (hv : ∀ c ∈ R.2.2, 0 ≤ M 155 c ∧ M 155 c ≤ 3) : mrl M Z R r := by
  obtain ⟨hRo, hr12⟩ := rule_in ho hR
  have h9 := pz_n ho
  obtain ⟨a1, a2, a3, a4⟩ := hz.2.2.2.2.1 r R hR
  have e0 : (12 * (0 : Int) + (r : Int)) = r := by omega
  rw [e0] at a1 a2 a3 a4
  refine ⟨hRo, hr12, hz.1, ⟨ho.1, ho.2.1⟩, a1, a2, a3, fun i hi => ?_, fun i hi => ?_⟩
  · have hm := getD_mem hi
    have := hRo.2.2.2.2.2.2.1 _ hm
    refine ⟨a4 i _ ?_, by omega, by omega⟩
    rw [List.getD_eq_getElem?_getD, List.getElem?_eq_getElem hi]
    rfl
  · rw [mxs_get i hi]
    exact hv _ (getD_mem hi)
theorem sp_triedAt (h : mrl M Z R r) {i : Nat} (hi : i < R.2.2.length) (K : Q (some (jI ((mxs M R).getD i 0))) M) : wc kc (d + 1) 274 [jR 133, jI r, jI i] M Q := by
  have hl4 := h.ok.2.2.2.2.2.1
  have hr := h.r12
  obtain ⟨c1, c2, c3⟩ := h.cl i hi
  refine s274 ?_
  rw [c1]
  refine ⟨⟨by omega, by omega⟩, ⟨by omega, by omega⟩, ?_⟩
  rw [← mxs_get (M := M) i hi]
  exact K
theorem mxs_len : (mxs M R).length = R.2.2.length := by simp [mxs]
/-- isUnlike -/
theorem unl_in (h : mrl M Z R r) {i : Nat} (hi : i < R.2.2.length) (K1 : (∀ j : Nat, j < i → (mxs M R).getD i 0 ≠ (mxs M R).getD j 0) → wp kc (d + 2) 275 2 [some (jR 133), some (jI r), some (jI ((i : Int) + 1)), none] [] M Q) (K0 : (∃ j : Nat, j < i ∧ (mxs M R).getD i 0 = (mxs M R).getD j 0) → Q (some (jI 0)) M) : ∀ (t j : Nat), j + t = i → (∀ k : Nat, k < j → (mxs M R).getD i 0 ≠ (mxs M R).getD k 0) → wp kc (d + 2) 275 14 [some (jR 133), some (jI r), some (jI i), some (jI j)] [] M Q := by
  have hl4 := h.ok.2.2.2.2.2.1
  intro t
  induction t with
  | zero =>
    intro j hj hk
    have hj : j = i := by omega
    subst hj
    exact s275_14 ⟨⟨⟨by omega, by omega⟩, ⟨by omega, by omega⟩⟩, fun _ => K1 hk, fun h => by omega⟩
  | succ t ih =>
    intro j hj hk
    have v1 := h.vs i hi
    have v2 := h.vs j (by omega)
    refine s275_14 ⟨⟨⟨by omega, by omega⟩, ⟨by omega, by omega⟩⟩, fun h => by omega, fun _ => sp_triedAt h hi (s275_25 (sp_triedAt h (by omega) (s275_31 ⟨⟨⟨by omega, by omega⟩, ⟨by omega, by omega⟩⟩, fun hne => ?_, fun he => K0 ⟨j, by omega, he⟩⟩)))⟩
    have nx := ih (j + 1) (by omega) (fun k hk2 => by
      by_cases hkj : k = j
      · rw [hkj]
        exact hne
      · exact hk k (by omega))
    rw [show ((j + 1 : Nat) : Int) = (j : Int) + 1 by omega] at nx
    exact nx
theorem unl_out (h : mrl M Z R r) (K : Q (some (jI (bI (decide (mxs M R).Nodup)))) M) : ∀ (t i : Nat), i + t = R.2.2.length → (∀ a b : Nat, a < i → b < a → (mxs M R).getD a 0 ≠ (mxs M R).getD b 0) → wp kc (d + 2) 275 2 [some (jR 133), some (jI r), some (jI i), none] [] M Q := by
  have hl4 := h.ok.2.2.2.2.2.1
  have hr := h.r12
  have hl := mxs_len (M := M) (R := R)
  intro t
  induction t with
  | zero =>
    intro i hi hp
    refine s275_2 ?_
    rw [h.sz]
    refine ⟨⟨by omega, by omega⟩, ⟨⟨by omega, by omega⟩, ⟨by omega, by omega⟩⟩, fun _ => ?_, fun h => by omega⟩
    rw [decide_eq_true (nodup_iff.mpr (fun a b ha hb => hp a b (by omega) hb))] at K
    exact K
  | succ t ih =>
    intro i hi hp
    refine s275_2 ?_
    rw [h.sz]
    refine ⟨⟨by omega, by omega⟩, ⟨⟨by omega, by omega⟩, ⟨by omega, by omega⟩⟩, fun h => by omega, fun _ => unl_in h (by omega) (fun hk => ?_) (fun ⟨j, j1, j2⟩ => ?_) i 0 (by omega) (fun k hk => by omega)⟩
    · have nx := ih (i + 1) (by omega) (fun a b ha hb => by
        by_cases hai : a = i
        · rw [hai] at hb ⊢
          exact hk b hb
        · exact hp a b (by omega) hb)
      rw [show ((i + 1 : Nat) : Int) = (i : Int) + 1 by omega] at nx
      exact nx
    · rw [decide_eq_false (fun hn => nodup_iff.mp hn i j (by omega) j1 j2)] at K
      exact K
theorem sp_isUnlike (h : mrl M Z R r) (K : Q (some (jI (bI (decide (mxs M R).Nodup)))) M) : wc kc (d + 2) 275 [jR 133, jI r] M Q :=
  s275 (unl_out h K R.2.2.length 0 (by omega) (fun a b ha => by omega))
/-- isRow: rise or apart -/
def rwP (R : PR) (a b : Int) : Bool := if R.1 = 4 then decide (a < b) else decide (R.2.1 ≤ b - a ∨ R.2.1 ≤ a - b)
theorem row_loop (h : mrl M Z R r) (hk : M 150 (r : Int) = 48 ↔ R.1 = 4) (hk2 : fx_in32 (M 150 (r : Int))) (K : Q (some (jI (bI (adA (rwP R) (mxs M R))))) M) : ∀ (t i : Nat), i + 1 + t = R.2.2.length → (∀ a : Nat, a < i → rwP R ((mxs M R).getD a 0) ((mxs M R).getD (a + 1) 0) = true) → wp kc (d + 2) 278 2 [some (jR 133), some (jI r), some (jI ((i : Int) + 1)), none] [] M Q := by
  have hl4 := h.ok.2.2.2.2.2.1
  have hn0 := h.ok.2.2.1
  have hn9 := h.ok.2.2.2.1
  have hr := h.r12
  have hl := mxs_len (M := M) (R := R)
  intro t
  induction t with
  | zero =>
    intro i hi hp
    refine s278_2 ?_
    rw [h.sz]
    refine ⟨⟨by omega, by omega⟩, ⟨⟨by omega, by omega⟩, ⟨by omega, by omega⟩⟩, fun _ => ?_, fun h => by omega⟩
    rw [adA_iff.mpr (fun a ha => hp a (by omega))] at K
    exact K
  | succ t ih =>
    intro i hi hp
    have v1 := h.vs (i + 1) (by omega)
    have v2 := h.vs i (by omega)
    have e1 : ((i + 1 : Nat) : Int) = (i : Int) + 1 := by omega
    have cont : rwP R ((mxs M R).getD i 0) ((mxs M R).getD (i + 1) 0) = true → wp kc (d + 2) 278 2 [some (jR 133), some (jI r), some (jI ((i : Int) + 1 + 1)), none] [] M Q := fun hb => by
      have nx := ih (i + 1) (by omega) (fun a ha => by
        by_cases hai : a = i
        · rw [hai]
          exact hb
        · exact hp a (by omega))
      rw [e1] at nx
      exact nx
    have stop : rwP R ((mxs M R).getD i 0) ((mxs M R).getD (i + 1) 0) = false → Q (some (jI 0)) M := fun hb => by
      have : adA (rwP R) (mxs M R) = false := by
        cases hx : adA (rwP R) (mxs M R)
        · rfl
        · have := adA_iff.mp hx i (by omega)
          rw [hb] at this
          exact absurd this (by decide)
      rw [this] at K
      exact K
    refine s278_2 ?_
    rw [h.sz]
    have t1 := sp_triedAt (kc := kc) (d := d) (Q := fun v M1 => wp kc (d + 2) 278 18 [some (jR 133), some (jI r), some (jI ((i : Int) + 1)), none] (v.toList ++ []) M1 Q) h (i := i + 1) (by omega)
    rw [e1] at t1
    refine ⟨⟨by omega, by omega⟩, ⟨⟨by omega, by omega⟩, ⟨by omega, by omega⟩⟩, fun h => by omega, fun _ => t1 (s278_18 ?_)⟩
    rw [show (i : Int) + 1 - 1 = (i : Int) by omega]
    refine sp_triedAt h (by omega) (s278_26 ?_)
    rw [h.nm]
    generalize (mxs M R).getD i 0 = a at v2 cont stop
    generalize (mxs M R).getD (i + 1) 0 = b at v1 cont stop
    unfold rwP at cont stop
    refine ⟨⟨by omega, by omega⟩, hk2, fun hne => ?_, fun heq => ?_⟩
    · have h4 : ¬ R.1 = 4 := fun h => hne (hk.mpr h)
      rw [if_neg h4] at cont stop
      refine ⟨⟨by omega, by omega⟩, ⟨⟨by omega, by omega⟩, ⟨by omega, by omega⟩⟩, fun h1 => cont (by simp; omega), fun h1 => ⟨⟨by omega, by omega⟩, ⟨⟨by omega, by omega⟩, ⟨by omega, by omega⟩⟩, fun h2 => cont (by simp; omega), fun h2 => stop (by simp; omega)⟩⟩
    · have h4 : R.1 = 4 := hk.mp heq
      rw [if_pos h4] at cont stop
      exact ⟨⟨by omega, by omega⟩, fun h1 => cont (by simp; omega), fun h1 => stop (by simp; omega)⟩
theorem sp_isRow (h : mrl M Z R r) (hk : M 150 (r : Int) = 48 ↔ R.1 = 4) (hk2 : fx_in32 (M 150 (r : Int))) (K : Q (some (jI (bI (adA (rwP R) (mxs M R))))) M) : wc kc (d + 2) 278 [jR 133, jI r] M Q := by
  have h1 := h.ok.2.2.2.2.1
  exact s278 (row_loop h hk hk2 K (R.2.2.length - 1) 0 (by omega) (fun a ha => by omega))
end MMT
