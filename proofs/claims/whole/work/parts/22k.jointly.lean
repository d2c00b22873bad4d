/-! jointly of the class: ways of two rules. -/
def way2 (w : Int) (R Q : PR) (S : Nat → Nat) (f : Int → Int) : Prop := way1 w R S f ∧ way1 w Q S f
/-- a long that tells the symbols of two rules' cells by ways that meet both -/
def jsp (y w : Int) (R Q : PR) (S : Nat → Nat) : Prop := fx_in64 y ∧ (y ≠ 0 ↔ ∃ f, way2 w R Q S f) ∧ ∀ c x : Nat, c < 9 → x < 4 → (lbit y (4 * c + x) = true ↔ (((c : Int) ∈ R.2.2 ∨ (c : Int) ∈ Q.2.2) ∧ ∃ f, way2 w R Q S f ∧ f (c : Int) = (x : Int)))
def popc (b : Nat) : Nat := ((List.range 9).filter b.testBit).length
theorem popc_rm : ∀ b : Fin 512, (b : Nat) ≠ 0 → popc ((b : Nat) &&& ((b : Nat) - 1)) + 1 = popc b := by decide +kernel
theorem sup_any {w : Int} {R : PR} {S : Nat → Nat} (h1 : 1 ≤ R.2.2.length) : canM w R S = true → ∃ x, x < 4 ∧ sup w R S 0 x = true := by
  unfold canM sup
  rw [List.any_eq_true]
  rintro ⟨xs, hx, hm⟩
  have h := prd_mem.mp hx
  have hl : (msk S R.2.2).length = R.2.2.length := by simp [msk]
  have := sym4_mem.mp (h.2 0 (by omega))
  refine ⟨(xs.getD 0 0).toNat, by omega, ?_⟩
  rw [List.any_eq_true]
  refine ⟨xs, hx, ?_⟩
  rw [Bool.and_eq_true, decide_eq_true_eq]
  exact ⟨hm, by omega⟩
theorem sup_f0 {w : Int} {R : PR} {S : Nat → Nat} {f : Nat} (hf : f < 65536) (h1 : 1 ≤ R.2.2.length) (hb : ∀ i y : Nat, i < 4 → y < 4 → f.testBit (4 * i + y) = sup w R S i y) : f ≠ 0 ↔ canM w R S = true := by
  constructor
  · intro h0
    obtain ⟨b, hb2⟩ : ∃ b, f.testBit b = true := by
      by_cases hc : ∃ b, f.testBit b = true
      · exact hc
      · exfalso
        apply h0
        refine Nat.eq_of_testBit_eq (fun i => ?_)
        rw [Nat.zero_testBit]
        cases hx : f.testBit i
        · rfl
        · exact absurd ⟨i, hx⟩ hc
    have hb16 : b < 16 := by
      by_cases h : b < 16
      · exact h
      · rw [Nat.testBit_lt_two_pow (Nat.lt_of_lt_of_le hf (Nat.pow_le_pow_right (n := 2) (by decide) (show 16 ≤ b by omega)))] at hb2
        exact absurd hb2 (by decide)
    have := hb (b / 4) (b % 4) (by omega) (by omega)
    rw [show 4 * (b / 4) + b % 4 = b by omega, hb2] at this
    exact sup_out this.symm
  · intro hc h0
    obtain ⟨x, hx, hs⟩ := sup_any h1 hc
    have := hb 0 x (by omega) hx
    rw [h0, Nat.zero_testBit, hs] at this
    exact absurd this (by decide)
theorem nib_sh {f : Nat} (hf : f < 65536) {i : Nat} (hi : i < 4) : ∃ m : Nat, m < 16 ∧ fx_and (fx_shr (f : Int) (4 * (i : Int))) 15 = (m : Int) ∧ ∀ y : Nat, y < 4 → m.testBit y = f.testBit (4 * i + y) := by
  refine ⟨f / 2 ^ (4 * i) % 16, by omega, ?_, fun y hy => ?_⟩
  · rw [fx_shr_eq ⟨by omega, by omega⟩ (by omega), fx_and_15, show (4 * (i : Int)).toNat = 4 * i by omega]
    generalize 2 ^ (4 * i) = P
    omega
  · rw [show (16 : Nat) = 2 ^ 4 by decide, Nat.testBit_mod_two_pow, Nat.testBit_div_two_pow]
    rw [show decide (y < 4) = true by simp [hy], Bool.true_and, Nat.add_comm]
theorem lbit_nib {m : Nat} (hm : m < 16) {c : Int} (hc : 0 ≤ c ∧ c < 10) {b : Nat} (hb : b < 64) : lbit (fx_lshl (m : Int) (4 * c)) b = true ↔ b / 4 = c.toNat ∧ m.testBit (b % 4) = true := by
  rw [lbit_lshl _ (by omega), lbit_nat (by omega)]
  simp only [Bool.and_eq_true, decide_eq_true_eq]
  constructor
  · rintro ⟨h1, h2, h3⟩
    have hlt : b - (4 * c).toNat < 4 := by
      by_cases h : b - (4 * c).toNat < 4
      · exact h
      · rw [Nat.testBit_lt_two_pow (Nat.lt_of_lt_of_le hm (Nat.pow_le_pow_right (n := 2) (by decide) (show 4 ≤ b - (4 * c).toNat by omega)))] at h3
        exact absurd h3 (by decide)
    refine ⟨by omega, ?_⟩
    rw [show b % 4 = b - (4 * c).toNat by omega]
    exact h3
  · rintro ⟨h1, h2⟩
    refine ⟨hb, by omega, ?_⟩
    rw [show b - (4 * c).toNat = b % 4 by omega]
    exact h2
section JNT
variable {L : Nat} {xs : Nat → Int32} {p : Nat} {M : fx_M} {Z : PZ}
theorem cell_b {R : PR} (ho : pz_ok Z) (hR : pr_ok (Z.1 * Z.2.1) R) (i : Nat) : 0 ≤ R.2.2.getD i 9 ∧ R.2.2.getD i 9 < 10 := by
  have h9 := pz_n ho
  by_cases hil : i < R.2.2.length
  · have hm : R.2.2.getD i 9 ∈ R.2.2 := by
      rw [List.getD_eq_getElem?_getD, List.getElem?_eq_getElem hil]
      exact List.getElem_mem hil
    have := hR.2.2.2.2.2.2.1 _ hm
    omega
  · rw [List.getD_eq_getElem?_getD, List.getElem?_eq_none (by omega)]
    decide
theorem jnt_base {d : Nat} {Q : Option fx_V → fx_M → Prop} {R R2 : PR} {r q : Nat} (Hp : fx_puz p) (hc : ckn M p Z) (ho : pz_ok Z) (hR : Z.2.2.2.1[r]? = some R) (hR2 : Z.2.2.2.1[q]? = some R2) {f g : Nat} (hf : f < 65536) (hg : g < 65536) : ∀ (n k : Nat) (v : Int), k + n = 4 → fx_in64 v → (∀ y, fx_in64 y → (∀ b : Nat, b < 64 → (lbit y b = true ↔ lbit v b = true ∨ ∃ i, k ≤ i ∧ i < 4 ∧ ((b / 4 = (R.2.2.getD i 9).toNat ∧ f.testBit (4 * i + b % 4) = true) ∨ (b / 4 = (R2.2.2.getD i 9).toNat ∧ g.testBit (4 * i + b % 4) = true)))) → Q (some (jL y)) M) → wp (kcs L xs) (d + 1) 125 40 [some (jR p), some (jI r), some (jI q), none, none, none, some (jI f), some (jI g), some (jL v), none, some (jI k), none] [] M Q := by
  obtain ⟨hRo, hr12⟩ := rule_in ho hR
  obtain ⟨hQo, hq12⟩ := rule_in ho hR2
  obtain ⟨a1, a2, a3, a4, a5⟩ := hc.1.2.2.2.2.2.1 r R hR
  obtain ⟨b1, b2, b3, b4, b5⟩ := hc.1.2.2.2.2.2.1 q R2 hR2
  intro n
  induction n with
  | zero =>
    intro k v hk hv K
    refine s125_40 Hp ⟨⟨by omega, by omega⟩, fun _ => K v hv (fun b hb => ?_), fun h => by omega⟩
    constructor
    · exact Or.inl
    · rintro (h | ⟨i, i1, i2, _⟩)
      · exact h
      · omega
  | succ n ih =>
    intro k v hk hv K
    obtain ⟨m, hm, em, bm⟩ := nib_sh hf (i := k) (by omega)
    obtain ⟨m2, hm2, em2, bm2⟩ := nib_sh hg (i := k) (by omega)
    have ca := cell_b ho hRo k
    have cb := cell_b ho hQo k
    refine s125_40 Hp ?_
    rw [em, em2, a4 k (by omega), b4 k (by omega)]
    refine ⟨⟨by omega, by omega⟩, fun h => by omega, fun _ => ⟨⟨by omega, by omega⟩, ⟨by omega, by omega⟩, ⟨by omega, by omega⟩, ⟨by omega, by omega⟩, ?_⟩⟩
    have nx := ih (k + 1) (fx_lor (fx_lor v (fx_lshl (m : Int) (4 * R.2.2.getD k 9))) (fx_lshl (m2 : Int) (4 * R2.2.2.getD k 9))) (by omega) (in64_lor _ _) (fun y hy hyb => K y hy (fun b hb => ?_))
    · rw [show ((k + 1 : Nat) : Int) = (k : Int) + 1 by omega] at nx
      exact nx
    · rw [hyb b hb, lbit_lor, lbit_lor, Bool.or_eq_true, Bool.or_eq_true, lbit_nib hm ca hb, lbit_nib hm2 cb hb, bm _ (by omega), bm2 _ (by omega)]
      constructor
      · rintro (((h | h) | h) | ⟨i, i1, i2, i3⟩)
        · exact Or.inl h
        · exact Or.inr ⟨k, by omega, by omega, Or.inl h⟩
        · exact Or.inr ⟨k, by omega, by omega, Or.inr h⟩
        · exact Or.inr ⟨i, by omega, i2, i3⟩
      · rintro (h | ⟨i, i1, i2, i3⟩)
        · exact Or.inl (Or.inl (Or.inl h))
        · by_cases hik : i = k
          · subst hik
            rcases i3 with h | h
            · exact Or.inl (Or.inl (Or.inr h))
            · exact Or.inl (Or.inr h)
          · exact Or.inr ⟨i, by omega, i2, i3⟩
theorem getD_mem {l : List Int} {i : Nat} (h : i < l.length) : l.getD i 0 ∈ l := by
  rw [List.getD_eq_getElem?_getD, List.getElem?_eq_getElem h]
  exact List.getElem_mem h
theorem mem_getD {l : List Int} {c : Int} (h : c ∈ l) : ∃ i, i < l.length ∧ l.getD i 0 = c := by
  obtain ⟨i, hi, rfl⟩ := List.mem_iff_getElem.mp h
  refine ⟨i, hi, ?_⟩
  rw [List.getD_eq_getElem?_getD, List.getElem?_eq_getElem hi]
  rfl
/-- two ways that agree where they must are one -/
theorem merge2 {w : Int} {R Q : PR} {S : Nat → Nat} (hS : ∀ c : Int, c ∈ R.2.2 → c ∈ Q.2.2 → ∃ s, s < 4 ∧ S c.toNat = 2 ^ s) {f g : Int → Int} (hf : way1 w R S f) (hg : way1 w Q S g) : ∃ h, way2 w R Q S h ∧ (∀ c ∈ R.2.2, h c = f c) ∧ ∀ c ∈ Q.2.2, h c = g c := by
  have hq : ∀ c ∈ Q.2.2, c ∈ R.2.2 → f c = g c := fun c cq cr => by
    obtain ⟨s, hs, e⟩ := hS c cr cq
    have h1 := sym4_mem.mp (hf.1 c cr)
    have h2 := sym4_mem.mp (hg.1 c cq)
    rw [e, pow_bit, decide_eq_true_eq] at h1 h2
    omega
  have e1 : ∀ c ∈ R.2.2, f c = (fun y => if y ∈ R.2.2 then f y else g y) c := fun c hc => by
    show f c = if c ∈ R.2.2 then f c else g c
    rw [if_pos hc]
  have e2 : ∀ c ∈ Q.2.2, g c = (fun y => if y ∈ R.2.2 then f y else g y) c := fun c hc => by
    show g c = if c ∈ R.2.2 then f c else g c
    by_cases hr : c ∈ R.2.2
    · rw [if_pos hr, hq c hc hr]
    · rw [if_neg hr]
  exact ⟨_, ⟨way1_congr hf e1, way1_congr hg e2⟩, fun c hc => (e1 c hc).symm, fun c hc => (e2 c hc).symm⟩
theorem fit_only {S : Nat → Nat} {l : List Int} (hl : ∀ c ∈ l, 0 ≤ c) {f : Int → Int} {c s : Nat} (hs : s < 4) (hb : (S c).testBit s = true) (h : fit (s_only S c s) l f) : fit S l f := fun y hy => by
  have := h y hy
  unfold s_only at this
  by_cases hyc : y.toNat = c
  · rw [if_pos hyc] at this
    have h1 := sym4_mem.mp this
    rw [pow_bit, decide_eq_true_eq] at h1
    refine sym4_mem.mpr ⟨h1.1, h1.2.1, ?_⟩
    rw [hyc, h1.2.2]
    exact hb
  · rw [if_neg hyc] at this
    exact this
theorem only_fit {S : Nat → Nat} {l : List Int} (hl : ∀ c ∈ l, 0 ≤ c) {f : Int → Int} {c s : Nat} (hs : s < 4) (hf : f (c : Int) = (s : Int)) (h : fit S l f) : fit (s_only S c s) l f := fun y hy => by
  have := h y hy
  have := hl y hy
  unfold s_only
  by_cases hyc : y.toNat = c
  · rw [if_pos hyc]
    have hyy : y = (c : Int) := by omega
    rw [hyy, hf]
    refine sym4_mem.mpr ⟨by omega, by omega, ?_⟩
    rw [pow_bit]
    simp
  · rw [if_neg hyc]
    assumption
/-- jointly -/
theorem sp_jointly {R R2 : PR} {r q : Nat} (Hp : fx_puz p) (hc : ckn M p Z) (ho : pz_ok Z) (hR : Z.2.2.2.1[r]? = some R) (hR2 : Z.2.2.2.1[q]? = some R2) : ∀ (n : Nat) {d : Nat} {Q : Option fx_V → fx_M → Prop} {S : Nat → Nat} {x : Int} {C : Nat}, popc C ≤ n → C < 512 → (∀ i : Nat, C.testBit i = true → (i : Int) ∈ R.2.2 ∧ (i : Int) ∈ R2.2.2) → (∀ c : Int, c ∈ R.2.2 → c ∈ R2.2.2 → C.testBit c.toNat = true ∨ ∃ s, s < 4 ∧ S c.toNat = 2 ^ s) → s_ok Z S → sta x S → (∀ y, jsp y Z.1 R R2 S → Q (some (jL y)) M) → wc (kcs L xs) (d + n + 3) 125 [jR p, jI r, jI q, jL x, jI C] M Q := by
  obtain ⟨hRo, hr12⟩ := rule_in ho hR
  obtain ⟨hQo, hq12⟩ := rule_in ho hR2
  have hRn := hRo.2.2.2.2.2.2.2
  have hQn := hQo.2.2.2.2.2.2.2
  have hR1 := hRo.2.2.2.2.1
  have hQ1 := hQo.2.2.2.2.1
  have h9 := pz_n ho
  have cR : ∀ c ∈ R.2.2, 0 ≤ c ∧ c < 9 := fun c h => by have := hRo.2.2.2.2.2.2.1 c h; omega
  have cQ : ∀ c ∈ R2.2.2, 0 ≤ c ∧ c < 9 := fun c h => by have := hQo.2.2.2.2.2.2.1 c h; omega
  intro n
  induction n with
  | zero =>
    intro d Q S x C hn hC hCin hCom hs hx K
    have hC0 : C = 0 := by
      by_cases h : C = 0
      · exact h
      · have := popc_rm ⟨C, hC⟩ h
        simp only at this
        omega
    subst hC0
    refine s125 Hp (sp_supports Hp hc ho hs hx hR (fun f hf hfb => s125_6 Hp (sp_supports Hp hc ho hs hx hR2 (fun g hg hgb => s125_14 Hp ?_))))
    have f0 := sup_f0 hf hR1 hfb
    have g0 := sup_f0 hg hQ1 hgb
    have nox : ¬ (canM Z.1 R S = true ∧ canM Z.1 R2 S = true) → jsp 0 Z.1 R R2 S := fun h => by
      have no : ¬ ∃ f, way2 Z.1 R R2 S f := fun ⟨f, h1, h2⟩ => h ⟨(canM_f hRn).mpr ⟨f, h1⟩, (canM_f hQn).mpr ⟨f, h2⟩⟩
      refine ⟨⟨by omega, by omega⟩, ⟨fun h => absurd rfl h, fun h => absurd h no⟩, fun c y hc hy => ?_⟩
      rw [lbit_0]
      constructor
      · intro h
        exact absurd h (by decide)
      · rintro ⟨_, f, hf, _⟩
        exact absurd ⟨f, hf⟩ no
    refine ⟨⟨by omega, by omega⟩, fun h => K 0 (nox (fun hh => by
      have := f0.mpr hh.1
      omega)), fun hfn => ⟨⟨by omega, by omega⟩, fun hgn => ⟨⟨by decide, by decide⟩, fun h => absurd rfl h, fun _ => ?_⟩, fun h => K 0 (nox (fun hh => by
      have := g0.mpr hh.2
      omega))⟩⟩
    have canR : canM Z.1 R S = true := f0.mp (by omega)
    have canQ : canM Z.1 R2 S = true := g0.mp (by omega)
    have hSing : ∀ c : Int, c ∈ R.2.2 → c ∈ R2.2.2 → ∃ s, s < 4 ∧ S c.toNat = 2 ^ s := fun c h1 h2 => by
      rcases hCom c h1 h2 with h | h
      · rw [Nat.zero_testBit] at h
        exact absurd h (by decide)
      · exact h
    obtain ⟨fr, hfr⟩ := (canM_f hRn).mp canR
    obtain ⟨fq, hfq⟩ := (canM_f hQn).mp canQ
    refine jnt_base Hp hc ho hR hR2 hf hg 4 0 0 (by omega) ⟨by omega, by omega⟩ (fun y hy hyb => K y ?_)
    have bits : ∀ c z : Nat, c < 9 → z < 4 → (lbit y (4 * c + z) = true ↔ (((c : Int) ∈ R.2.2 ∨ (c : Int) ∈ R2.2.2) ∧ ∃ f, way2 Z.1 R R2 S f ∧ f (c : Int) = (z : Int))) := fun c z hc9 hz4 => by
      rw [hyb _ (by omega), lbit_0, show (4 * c + z) / 4 = c by omega, show (4 * c + z) % 4 = z by omega]
      constructor
      · rintro (h | ⟨i, _, i2, ⟨e, hb⟩ | ⟨e, hb⟩⟩)
        · exact absurd h (by decide)
        · rw [hfb i z i2 hz4] at hb
          have hil : i < R.2.2.length := by
            by_cases h : i < R.2.2.length
            · exact h
            · rw [List.getD_eq_getElem?_getD, List.getElem?_eq_none (by omega)] at e
              have e : c = 9 := e
              omega
          rw [getD_09 hil] at e
          obtain ⟨f, h1, h2⟩ := (sup_f hRn hil).mp hb
          have hm := getD_mem hil
          have hcb := cR _ hm
          have ec : R.2.2.getD i 0 = (c : Int) := by omega
          rw [ec] at h2 hm
          obtain ⟨h, hw, e1, e2⟩ := merge2 hSing h1 hfq
          exact ⟨Or.inl hm, h, hw, by rw [e1 _ hm]; exact h2⟩
        · rw [hgb i z i2 hz4] at hb
          have hil : i < R2.2.2.length := by
            by_cases h : i < R2.2.2.length
            · exact h
            · rw [List.getD_eq_getElem?_getD, List.getElem?_eq_none (by omega)] at e
              have e : c = 9 := e
              omega
          rw [getD_09 hil] at e
          obtain ⟨f, h1, h2⟩ := (sup_f hQn hil).mp hb
          have hm := getD_mem hil
          have hcb := cQ _ hm
          have ec : R2.2.2.getD i 0 = (c : Int) := by omega
          rw [ec] at h2 hm
          obtain ⟨h, hw, e1, e2⟩ := merge2 hSing hfr h1
          exact ⟨Or.inr hm, h, hw, by rw [e2 _ hm]; exact h2⟩
      · rintro ⟨hm, f, ⟨hw1, hw2⟩, hv⟩
        right
        rcases hm with hm | hm
        · obtain ⟨i, hi, e⟩ := mem_getD hm
          have hl4 := hRo.2.2.2.2.2.1
          refine ⟨i, by omega, by omega, Or.inl ⟨?_, ?_⟩⟩
          · rw [getD_09 hi, e]
            omega
          · rw [hfb i z (by omega) hz4]
            exact (sup_f hRn hi).mpr ⟨f, hw1, by rw [e]; exact hv⟩
        · obtain ⟨i, hi, e⟩ := mem_getD hm
          have hl4 := hQo.2.2.2.2.2.1
          refine ⟨i, by omega, by omega, Or.inr ⟨?_, ?_⟩⟩
          · rw [getD_09 hi, e]
            omega
          · rw [hgb i z (by omega) hz4]
            exact (sup_f hQn hi).mpr ⟨f, hw2, by rw [e]; exact hv⟩
    refine ⟨hy, ⟨fun _ => ?_, fun _ => ?_⟩, bits⟩
    · obtain ⟨h, hw, _⟩ := merge2 hSing hfr hfq
      exact ⟨h, hw⟩
    · rw [lbit_ne0 hy]
      obtain ⟨h, hw, e1, _⟩ := merge2 hSing hfr hfq
      have hm := getD_mem (l := R.2.2) (i := 0) (by omega)
      have hcb := cR _ hm
      have hv := sym4_mem.mp (hw.1.1 _ hm)
      refine ⟨4 * (R.2.2.getD 0 0).toNat + (h (R.2.2.getD 0 0)).toNat, by omega, ?_⟩
      rw [bits _ _ (by omega) (by omega), show (((R.2.2.getD 0 0).toNat : Nat) : Int) = R.2.2.getD 0 0 by omega]
      exact ⟨Or.inl hm, h, hw, by omega⟩
  | succ n ih =>
    intro d Q S x C hn hC hCin hCom hs hx K
    by_cases hle : popc C ≤ n
    · have := ih (d := d + 1) hle hC hCin hCom hs hx K
      rw [show d + 1 + n + 3 = d + (n + 1) + 3 by omega] at this
      exact this
    have hC0 : C ≠ 0 := by
      rintro rfl
      apply hle
      have : popc 0 = 0 := by decide
      omega
    have hrm := popc_rm ⟨C, hC⟩ hC0
    simp only at hrm
    obtain ⟨l1, l2, l3⟩ := lowb_b hC0 hC
    obtain ⟨m1, m2, m3⟩ := lowb_rm hC0 hC
    have hlow := hCin _ l2
    have hcell := cR _ hlow.1
    have hcn := hRo.2.2.2.2.2.2.1 _ hlow.1
    refine s125 Hp (sp_supports Hp hc ho hs hx hR (fun f hf hfb => s125_6 Hp (sp_supports Hp hc ho hs hx hR2 (fun g hg hgb => s125_14 Hp ?_))))
    have f0 := sup_f0 hf hR1 hfb
    have g0 := sup_f0 hg hQ1 hgb
    have nox : ¬ (canM Z.1 R S = true ∧ canM Z.1 R2 S = true) → jsp 0 Z.1 R R2 S := fun h => by
      have no : ¬ ∃ f, way2 Z.1 R R2 S f := fun ⟨f, h1, h2⟩ => h ⟨(canM_f hRn).mpr ⟨f, h1⟩, (canM_f hQn).mpr ⟨f, h2⟩⟩
      refine ⟨⟨by omega, by omega⟩, ⟨fun h => absurd rfl h, fun h => absurd h no⟩, fun c y hc hy => ?_⟩
      rw [lbit_0]
      constructor
      · intro h
        exact absurd h (by decide)
      · rintro ⟨_, f, hf, _⟩
        exact absurd ⟨f, hf⟩ no
    refine ⟨⟨by omega, by omega⟩, fun h => K 0 (nox (fun hh => by
      have := f0.mpr hh.1
      omega)), fun hfn => ⟨⟨by omega, by omega⟩, fun hgn => ⟨⟨by omega, by omega⟩, fun _ => ?_, fun h => absurd h (by omega)⟩, fun h => K 0 (nox (fun hh => by
      have := g0.mpr hh.2
      omega))⟩⟩
    refine sp_lowest hC0 hC (s125_120 Hp ?_)
    have hS16 := s_ok_16 ho hs (c := lowb C) (by omega)
    -- the loop over symbols
    have loop : ∀ (t k : Nat) (v : Int), k + t = 4 → fx_in64 v → (v ≠ 0 ↔ ∃ f, way2 Z.1 R R2 S f ∧ f (lowb C : Int) < (k : Int)) → (∀ c z : Nat, c < 9 → z < 4 → (lbit v (4 * c + z) = true ↔ (((c : Int) ∈ R.2.2 ∨ (c : Int) ∈ R2.2.2) ∧ ∃ f, (way2 Z.1 R R2 S f ∧ f (lowb C : Int) < (k : Int)) ∧ f (c : Int) = (z : Int)))) → wp (kcs L xs) (d + (n + 1) + 3) 125 125 [some (jR p), some (jI r), some (jI q), some (jL x), none, some (jI C), none, none, some (jL v), none, some (jI (lowb C : Nat)), some (jI k)] [] M Q := by
      intro t
      induction t with
      | zero =>
        intro k v hk hv hvn hvb
        have hlt : ∀ f, way2 Z.1 R R2 S f → f (lowb C : Int) < (k : Int) := fun f hf => by
          have := sym4_mem.mp (hf.1.1 _ hlow.1)
          omega
        refine s125_125 Hp ⟨⟨by omega, by omega⟩, fun _ => K v ⟨hv, ?_, fun c z hc hz => ?_⟩, fun h => by omega⟩
        · rw [hvn]
          exact ⟨fun ⟨f, h, _⟩ => ⟨f, h⟩, fun ⟨f, h⟩ => ⟨f, h, hlt f h⟩⟩
        · rw [hvb c z hc hz]
          exact ⟨fun ⟨h, f, ⟨h1, _⟩, h2⟩ => ⟨h, f, h1, h2⟩, fun ⟨h, f, h1, h2⟩ => ⟨h, f, ⟨h1, hlt f h1⟩, h2⟩⟩
      | succ t iht =>
        intro k v hk hv hvn hvb
        have e1 : ((k + 1 : Nat) : Int) = (k : Int) + 1 := by omega
        refine s125_125 Hp ⟨⟨by omega, by omega⟩, fun h => by omega, fun _ => sp_may hx (by omega) (by rw [Int.toNat_natCast]; exact hS16) ?_⟩
        rw [Int.toNat_natCast]
        have eb := sm_bit ⟨S (lowb C), hS16⟩ ⟨k, by omega⟩
        simp only at eb
        refine s125_137 Hp ?_
        rw [eb]
        have ebb : 0 ≤ (if (S (lowb C)).testBit k = true then (1 : Int) else 0) ∧ (if (S (lowb C)).testBit k = true then (1 : Int) else 0) ≤ 1 := by split <;> omega
        refine ⟨⟨by omega, by omega⟩, fun hz0 => ?_, fun hz1 => ?_⟩
        · have hbit : ¬ (S (lowb C)).testBit k = true := fun h => by
            rw [if_pos h] at hz0
            omega
          have hne : ∀ f, way2 Z.1 R R2 S f → (f (lowb C : Int) < (k : Int) ↔ f (lowb C : Int) < ((k + 1 : Nat) : Int)) := fun f hf => by
            have h1 := sym4_mem.mp (hf.1.1 _ hlow.1)
            rw [Int.toNat_natCast] at h1
            have : f (lowb C : Int) ≠ (k : Int) := fun h => by
              rw [h, Int.toNat_natCast] at h1
              exact hbit h1.2.2
            omega
          have nx := iht (k + 1) v (by omega) hv (by
            rw [hvn]
            exact ⟨fun ⟨f, h1, h2⟩ => ⟨f, h1, (hne f h1).mp h2⟩, fun ⟨f, h1, h2⟩ => ⟨f, h1, (hne f h1).mpr h2⟩⟩) (fun c z hc hz => by
            rw [hvb c z hc hz]
            exact ⟨fun ⟨h, f, ⟨h1, h2⟩, h3⟩ => ⟨h, f, ⟨h1, (hne f h1).mp h2⟩, h3⟩, fun ⟨h, f, ⟨h1, h2⟩, h3⟩ => ⟨h, f, ⟨h1, (hne f h1).mpr h2⟩, h3⟩⟩)
          rw [e1] at nx
          exact nx
        · have hbit : (S (lowb C)).testBit k = true := by
            by_cases h : (S (lowb C)).testBit k = true
            · exact h
            · rw [if_neg h] at hz1
              exact absurd rfl hz1
          have hks : (k : Int) < Z.2.2.1 := by
            have o5 := ho.2.2.2.2.1
            have hlt := (hs (lowb C) (by omega)).1 (by omega)
            by_cases h : (k : Int) < Z.2.2.1
            · exact h
            · rw [Nat.testBit_lt_two_pow (Nat.lt_of_lt_of_le hlt (Nat.pow_le_pow_right (n := 2) (by decide) (show Z.2.2.1.toNat ≤ k by omega)))] at hbit
              exact absurd hbit (by decide)
          refine sp_only hx (by omega) (by omega) (fun x2 hx2 => s125_158 Hp ?_)
          rw [Int.toNat_natCast, Int.toNat_natCast] at hx2
          rw [m1]
          have rcx := ih (d := d) (Q := fun v1 M1 => wp (kcs L xs) (d + (n + 1) + 3) 125 168 [some (jR p), some (jI r), some (jI q), some (jL x), none, some (jI C), none, none, none, none, some (jI (lowb C : Nat)), some (jI k)] (v1.toList ++ [jL v]) M1 Q) (S := s_only S (lowb C) k) (x := x2) (C := C &&& (C - 1)) (by omega) m2 (fun i hi => by
            by_cases hi9 : i < 9
            · rw [m3 i hi9, Bool.and_eq_true] at hi
              exact hCin i hi.1
            · rw [Nat.testBit_lt_two_pow (Nat.lt_of_lt_of_le m2 (Nat.pow_le_pow_right (n := 2) (by decide) (show 9 ≤ i by omega)))] at hi
              exact absurd hi (by decide)) (fun c h1 h2 => by
            have hb := cR c h1
            by_cases hcl : c.toNat = lowb C
            · right
              refine ⟨k, by omega, ?_⟩
              unfold s_only
              rw [if_pos hcl]
            · rcases hCom c h1 h2 with h | ⟨s, hs1, hs2⟩
              · left
                rw [m3 _ (by omega), h]
                simp [hcl]
              · right
                refine ⟨s, hs1, ?_⟩
                unfold s_only
                rw [if_neg hcl]
                exact hs2) (s_only_ok hs (by omega) hks) hx2
          rw [show d + n + 3 = d + (n + 1) + 2 by omega] at rcx
          refine rcx (fun y hy => s125_168 Hp ?_)
          obtain ⟨y1, y2, y3⟩ := hy
          -- ways with this symbol
          have w2 : ∀ f, way2 Z.1 R R2 (s_only S (lowb C) k) f ↔ (way2 Z.1 R R2 S f ∧ f (lowb C : Int) = (k : Int)) := fun f => by
            constructor
            · rintro ⟨⟨h1, h2⟩, h3, h4⟩
              refine ⟨⟨⟨fit_only (fun c hc => (cR c hc).1) (by omega) hbit h1, h2⟩, fit_only (fun c hc => (cQ c hc).1) (by omega) hbit h3, h4⟩, ?_⟩
              have hv := h1 _ hlow.1
              unfold s_only at hv
              rw [Int.toNat_natCast, if_pos rfl] at hv
              have hv := sym4_mem.mp hv
              rw [pow_bit, decide_eq_true_eq] at hv
              omega
            · rintro ⟨⟨⟨h1, h2⟩, h3, h4⟩, h5⟩
              exact ⟨⟨only_fit (fun c hc => (cR c hc).1) (by omega) h5 h1, h2⟩, only_fit (fun c hc => (cQ c hc).1) (by omega) h5 h3, h4⟩
          have nx := iht (k + 1) (fx_lor v y) (by omega) (in64_lor _ _) (by
            rw [lbit_ne0 (in64_lor _ _)]
            constructor
            · rintro ⟨i, hi, hb⟩
              rw [lbit_lor, Bool.or_eq_true] at hb
              rcases hb with hb | hb
              · obtain ⟨f, h1, h2⟩ := hvn.mp ((lbit_ne0 hv).mpr ⟨i, hi, hb⟩)
                exact ⟨f, h1, by omega⟩
              · obtain ⟨f, h1⟩ := y2.mp ((lbit_ne0 y1).mpr ⟨i, hi, hb⟩)
                have h2 := (w2 f).mp h1
                exact ⟨f, h2.1, by omega⟩
            · rintro ⟨f, h1, h2⟩
              by_cases hfk : f (lowb C : Int) = (k : Int)
              · obtain ⟨i, hi, hb⟩ := (lbit_ne0 y1).mp (y2.mpr ⟨f, (w2 f).mpr ⟨h1, hfk⟩⟩)
                refine ⟨i, hi, ?_⟩
                rw [lbit_lor, hb, Bool.or_true]
              · obtain ⟨i, hi, hb⟩ := (lbit_ne0 hv).mp (hvn.mpr ⟨f, h1, by omega⟩)
                refine ⟨i, hi, ?_⟩
                rw [lbit_lor, hb, Bool.true_or]) (fun c z hc hz => by
            rw [lbit_lor, Bool.or_eq_true, hvb c z hc hz, y3 c z hc hz]
            constructor
            · rintro (⟨h, f, ⟨h1, h2⟩, h3⟩ | ⟨h, f, h1, h3⟩)
              · exact ⟨h, f, ⟨h1, by omega⟩, h3⟩
              · have h2 := (w2 f).mp h1
                exact ⟨h, f, ⟨h2.1, by omega⟩, h3⟩
            · rintro ⟨h, f, ⟨h1, h2⟩, h3⟩
              by_cases hfk : f (lowb C : Int) = (k : Int)
              · exact Or.inr ⟨h, f, (w2 f).mpr ⟨h1, hfk⟩, h3⟩
              · exact Or.inl ⟨h, f, ⟨h1, by omega⟩, h3⟩)
          rw [e1] at nx
          exact nx
    refine loop 4 0 0 (by omega) ⟨by omega, by omega⟩ ⟨fun h => absurd rfl h, fun ⟨f, h1, h2⟩ => ?_⟩ (fun c z hc hz => ?_)
    · have := sym4_mem.mp (h1.1.1 _ hlow.1)
      omega
    · rw [lbit_0]
      constructor
      · intro h
        exact absurd h (by decide)
      · rintro ⟨_, f, ⟨h1, h2⟩, _⟩
        have := sym4_mem.mp (h1.1.1 _ hlow.1)
        omega
end JNT
