/-! Colours that bar: in order, both sides. -/
/-- the sum of a rule's colours -/
def barS (x : List Int) (R : PR) : Int := (R.2.2.map fun c => x.getD c.toNat 0).sum
/-- colours below m that do -/
def barP (Z : PZ) (m : Int) (x : List Int) : Bool := (x.all fun y => decide (0 ≤ y ∧ y < m)) && (Z.2.2.2.1.all fun R => decide (barS x R % m = 0)) && decide (x.sum % m ≠ 0)
def barL (Z : PZ) (m : Int) : List (List Int) := sbx (barP Z m) [] (Z.1 * Z.2.1).toNat
/-- the text -/
def tBar (Z : PZ) : List Int := match barL Z 2 with
  | x :: _ => wls (wrd 24) ++ [32, 50, 32] ++ tFil x
  | [] => match barL Z 3 with
    | x :: _ => wls (wrd 24) ++ [32, 51, 32] ++ tFil x
    | [] => wls (wrd 38)
theorem barP_hi {Z : PZ} {m : Int} {p : List Int} {y : Int} {k : Nat} (h : m ≤ y) : sbx (barP Z m) (p ++ [y]) k = [] := sbx_nil (fun t _ => by
  unfold barP
  have : ((p ++ [y] ++ t).all fun y => decide (0 ≤ y ∧ y < m)) = false := by
    rw [List.all_eq_false]
    exact ⟨y, by simp, by simp; omega⟩
  rw [this]
  rfl)
theorem barP_hiA {Z : PZ} {m : Int} {p : List Int} {k t : Nat} (ht : t ≤ 4) (h : m ≤ 4 - (t : Int)) : sbA (barP Z m) p k t = [] := sbA_nil (fun y hy => barP_hi (by have := (mem_up4 ht).mp hy; omega))
theorem barS_pre {p t : List Int} {R : PR} (h : ∀ c ∈ R.2.2, 0 ≤ c ∧ c < p.length) : barS (p ++ t) R = barS p R := by
  unfold barS
  congr 1
  apply List.map_congr_left
  intro c hc
  have := h c hc
  rw [List.getD_eq_getElem?_getD, List.getD_eq_getElem?_getD, List.getElem?_append_left (by omega)]
theorem div_1 {a c : Nat} : a / 2 ^ c = 1 ↔ a.testBit c = true ∧ ∀ i, c < i → a.testBit i = false := by
  constructor
  · intro h
    have hp : 0 < 2 ^ c := Nat.two_pow_pos c
    have hlt : a < 2 ^ (c + 1) := by
      have := (Nat.div_lt_iff_lt_mul (x := a) (y := 2) hp).mp (by omega)
      rw [Nat.pow_succ]
      omega
    refine ⟨?_, fun i hi => Nat.testBit_lt_two_pow (Nat.lt_of_lt_of_le hlt (Nat.pow_le_pow_right (by decide) (by omega)))⟩
    rw [Nat.testBit_eq_decide_div_mod_eq, h]
    rfl
  · rintro ⟨h1, h2⟩
    have hge := Nat.ge_two_pow_of_testBit h1
    have hlt : a < 2 ^ (c + 1) := Nat.lt_pow_two_of_testBit _ (fun i hi => h2 i (by omega))
    rw [Nat.pow_succ] at hlt
    exact Nat.div_eq_of_lt_le (by omega) (by omega)
/-- the rule's last cell is c -/
def lasC (R : PR) (c : Nat) : Prop := (c : Int) ∈ R.2.2 ∧ ∀ y ∈ R.2.2, y ≤ (c : Int)
theorem las_iff {Z : PZ} (ho : pz_ok Z) {R : PR} (hR : R ∈ Z.2.2.2.1) {c : Nat} (hc : c < 9) : fx_shr (area R.2.2) (c : Int) = 1 ↔ lasC R c := by
  have h9 := pr_c9 ho hR
  have hlt := nar_lt h9
  have h31 : ∀ x ∈ R.2.2, 0 ≤ x ∧ x < 31 := fun x hx => by have := h9 x hx; omega
  rw [(area_nar h31).1, fx_shr_eq ⟨by omega, by omega⟩ ⟨by omega, by omega⟩, Int.toNat_natCast]
  have e : ((nar R.2.2 : Nat) : Int) / ((2 ^ c : Nat) : Int) = ((nar R.2.2 / 2 ^ c : Nat) : Int) := by rw [Int.natCast_ediv]
  rw [e]
  have e2 : ((nar R.2.2 / 2 ^ c : Nat) : Int) = 1 ↔ nar R.2.2 / 2 ^ c = 1 := by omega
  rw [e2, div_1]
  have hm : ∀ i : Nat, (nar R.2.2).testBit i = true ↔ (i : Int) ∈ R.2.2 := fun i => by
    have := nar_mem (l := R.2.2) (c := (i : Int)) h31 (by omega)
    rw [Int.toNat_natCast] at this
    exact this
  constructor
  · rintro ⟨a1, a2⟩
    refine ⟨(hm c).mp a1, fun y hy => ?_⟩
    have hy9 := h9 y hy
    by_cases hle : y ≤ (c : Int)
    · exact hle
    · have := a2 y.toNat (by omega)
      have h2 := (hm y.toNat).mpr (by rw [Int.toNat_of_nonneg hy9.1]; exact hy)
      rw [this] at h2
      cases h2
  · rintro ⟨a1, a2⟩
    refine ⟨(hm c).mpr a1, fun i hi => ?_⟩
    by_cases hb : (nar R.2.2).testBit i = true
    · have := a2 _ ((hm i).mp hb)
      omega
    · simpa using hb
/-- the rules whose cells have all their colours do -/
def barI (Z : PZ) (m : Int) (p : List Int) : Prop := (∀ i : Nat, i < p.length → 0 ≤ p.getD i 0 ∧ p.getD i 0 < m) ∧ ∀ R ∈ Z.2.2.2.1, (∀ y ∈ R.2.2, y < (p.length : Int)) → barS p R % m = 0
theorem sum_app1 {p : List Int} {y : Int} : (p ++ [y]).sum = p.sum + y := by
  simp
theorem sum_b {m : Int} : ∀ {p : List Int}, (∀ y ∈ p, 0 ≤ y ∧ y < m) → 0 ≤ p.sum ∧ p.sum ≤ p.length * m
  | [], _ => by simp
  | y :: p, h => by
    have ih := sum_b (p := p) (fun z hz => h z (List.mem_cons_of_mem _ hz))
    have hy := h y (List.mem_cons_self ..)
    rw [List.sum_cons, List.length_cons]
    have e : ((p.length + 1 : Nat) : Int) * m = (p.length : Int) * m + m := by
      rw [show ((p.length + 1 : Nat) : Int) = (p.length : Int) + 1 by omega, Int.add_mul, Int.one_mul]
    rw [e]
    omega
section CBA
variable {L : Nat} {xs : Nat → Int32} {d : Nat} {Q : Option fx_V → fx_M → Prop} {Z : PZ}
theorem sp_isMultiple {s m : Int} {M : fx_M} {kc : List va_E} (hs : 0 ≤ s ∧ s ≤ 1000) (hm : 2 ≤ m ∧ m ≤ 3) (K : Q (some (jI (if s % m = 0 then 1 else 0))) M) : wc kc (d + 1) 165 [jI s, jI m] M Q := by
  refine s165 ?_
  rw [if_neg (show ¬ m < 1 by omega)]
  have h1 := Int.emod_nonneg s (show m ≠ 0 by omega)
  have h2 := Int.emod_lt_of_pos s (show 0 < m by omega)
  refine ⟨⟨by omega, by omega⟩, ⟨⟨by omega, by omega⟩, ⟨by omega, by omega⟩⟩, ⟨by omega, by omega⟩, ?_, K⟩
  split <;> omega
theorem au_sum (ho : pz_ok Z) {m : Int} (hm : 2 ≤ m ∧ m ≤ 3) {p : List Int} (hp : barI Z m p ∨ ∀ i : Nat, i < p.length → 0 ≤ p.getD i 0 ∧ p.getD i 0 < m) {M : fx_M} (hz : cz M 11 Z) (h52 : ∀ i : Nat, i < p.length → M 52 (i : Int) = p.getD i 0) {r : Nat} {R : PR} (hR : Z.2.2.2.1[r]? = some R) (hc : ∀ y ∈ R.2.2, y < (p.length : Int)) {c : Int} (K : wc (kcs L xs) (d + 1) 165 [jI (barS p R), jI m] M (fun v M1 => wp (kcs L xs) (d + 2) 166 84 [some (jR 50), some (jI c), some (jI m), some (jI r), none, none] (v.toList ++ []) M1 Q)) : ∀ (t i : Nat) (s : Int), i + t = R.2.2.length → s = ((R.2.2.take i).map fun c => p.getD c.toNat 0).sum → wp (kcs L xs) (d + 2) 166 34 [some (jR 50), some (jI c), some (jI m), some (jI r), some (jI s), some (jI i)] [] M Q := by
  have hp' : ∀ i : Nat, i < p.length → 0 ≤ p.getD i 0 ∧ p.getD i 0 < m := by
    rcases hp with h | h
    · exact h.1
    · exact h
  have h12 := ho.2.2.2.2.2.2.1
  obtain ⟨hrl, e⟩ := List.getElem?_eq_some_iff.mp hR
  have hRm : R ∈ Z.2.2.2.1 := e ▸ List.getElem_mem hrl
  have h9 := pr_c9 ho hRm
  have hok := ho.2.2.2.2.2.2.2.1 R hRm
  have h4l := hok.2.2.2.2.2.1
  obtain ⟨a1, a2, a3, a4, a5⟩ := hz.2.2.2.2.2.1 r R hR
  intro t
  induction t with
  | zero =>
    intro i s hi hs
    refine s166_34 ?_
    rw [show M 14 (r : Int) = R.2.2.length from a3]
    refine ⟨⟨by omega, by omega⟩, ⟨⟨by omega, by omega⟩, ⟨by omega, by omega⟩⟩, fun _ => ?_, fun h => by omega⟩
    rw [hs, List.take_of_length_le (by omega)]
    exact K
  | succ t ih =>
    intro i s hi hs
    have hil : i < R.2.2.length := by omega
    have hmem : R.2.2[i] ∈ R.2.2 := List.getElem_mem hil
    have b9 := h9 _ hmem
    have bp := hc _ hmem
    have e15 : M 15 (4 * (r : Int) + i) = R.2.2[i] := by
      have := a4 i (by omega)
      rw [List.getD_eq_getElem?_getD, List.getElem?_eq_getElem hil, Option.getD_some] at this
      exact this
    have e52 : M 52 R.2.2[i] = p.getD R.2.2[i].toNat 0 := by
      have := h52 R.2.2[i].toNat (by omega)
      rw [Int.toNat_of_nonneg b9.1] at this
      exact this
    refine s166_34 ?_
    rw [show M 14 (r : Int) = R.2.2.length from a3, e15, e52]
    have nx := ih (i + 1) (s + p.getD R.2.2[i].toNat 0) (by omega) (by
      rw [hs, List.take_succ_eq_append_getElem hil, List.map_append, List.map_singleton, sum_app1])
    rw [show ((i + 1 : Nat) : Int) = (i : Int) + 1 by omega] at nx
    exact ⟨⟨by omega, by omega⟩, ⟨⟨by omega, by omega⟩, ⟨by omega, by omega⟩⟩, fun h => by omega, fun _ => ⟨⟨by omega, by omega⟩, ⟨by omega, by omega⟩, nx⟩⟩
theorem barS_b {m : Int} {p : List Int} {R : PR} (hp : ∀ i : Nat, i < p.length → 0 ≤ p.getD i 0 ∧ p.getD i 0 < m) (hm : 2 ≤ m ∧ m ≤ 3) (hl : R.2.2.length ≤ 4) : 0 ≤ barS p R ∧ barS p R ≤ 1000 := by
  have := sum_b (m := m) (p := R.2.2.map fun c => p.getD c.toNat 0) (fun y hy => by
    obtain ⟨c, _, rfl⟩ := List.mem_map.mp hy
    by_cases h : c.toNat < p.length
    · exact hp _ h
    · rw [List.getD_eq_getElem?_getD, List.getElem?_eq_none (by omega)]
      simp
      omega)
  rw [List.length_map] at this
  unfold barS
  have h1 : (R.2.2.length : Int) * m ≤ 4 * m := Int.mul_le_mul_of_nonneg_right (by omega) (by omega)
  omega
/-- addUp: whether all rules that end at the last colour do -/
theorem sp_addUp (ho : pz_ok Z) {m : Int} (hm : 2 ≤ m ∧ m ≤ 3) {p : List Int} {c : Nat} (hpl : p.length = c + 1) (hc9 : c < 9) (hp : ∀ i : Nat, i < p.length → 0 ≤ p.getD i 0 ∧ p.getD i 0 < m) {M : fx_M} (hz : cz M 11 Z) (h52 : ∀ i : Nat, i < p.length → M 52 (i : Int) = p.getD i 0) (K0 : ∀ R ∈ Z.2.2.2.1, lasC R c → barS p R % m ≠ 0 → Q (some (jI 0)) M) (K1 : (∀ R ∈ Z.2.2.2.1, lasC R c → barS p R % m = 0) → Q (some (jI 1)) M) : wc (kcs L xs) (d + 2) 166 [jR 50, jI c, jI m] M Q := by
  have h12 := ho.2.2.2.2.2.2.1
  refine s166 ?_
  have z : ∀ (t r : Nat), r + t = Z.2.2.2.1.length → (∀ (s : Nat) (R : PR), s < r → Z.2.2.2.1[s]? = some R → lasC R c → barS p R % m = 0) → wp (kcs L xs) (d + 2) 166 2 [some (jR 50), some (jI c), some (jI m), some (jI r), none, none] [] M Q := by
    intro t
    induction t with
    | zero =>
      intro r hr hs
      refine s166_2 ?_
      rw [hz.2.2.2.2.1]
      refine ⟨⟨⟨by omega, by omega⟩, ⟨by omega, by omega⟩⟩, fun _ => K1 (fun R hR hl => ?_), fun h => by omega⟩
      obtain ⟨s, hs1, hs2⟩ := List.mem_iff_getElem.mp hR
      exact hs s R (by omega) (by rw [List.getElem?_eq_getElem hs1, hs2]) hl
    | succ t ih =>
      intro r hr hs
      have hrl : r < Z.2.2.2.1.length := by omega
      have hR := List.getElem?_eq_getElem hrl
      have hRm : Z.2.2.2.1[r] ∈ Z.2.2.2.1 := List.getElem_mem hrl
      have hok := ho.2.2.2.2.2.2.2.1 _ hRm
      have ea : M 16 (r : Int) = area Z.2.2.2.1[r].2.2 := (hz.2.2.2.2.2.1 r _ hR).2.2.2.2
      have hli := las_iff ho hRm hc9
      have hin := area_in (l := Z.2.2.2.1[r].2.2) (fun x hx => by have := pr_c9 ho hRm x hx; omega)
      have go : (lasC Z.2.2.2.1[r] c → barS p Z.2.2.2.1[r] % m = 0) → wp (kcs L xs) (d + 2) 166 2 [some (jR 50), some (jI c), some (jI m), some (jI ((r : Int) + 1)), none, none] [] M Q := fun h => by
        have nx := ih (r + 1) (by omega) (fun s R hsr hR' hl => by
          by_cases e : s = r
          · subst e
            rw [hR] at hR'
            cases hR'
            exact h hl
          · exact hs s R (by omega) hR' hl)
        rw [show ((r + 1 : Nat) : Int) = (r : Int) + 1 by omega] at nx
        exact nx
      refine s166_2 ?_
      rw [hz.2.2.2.2.1, ea]
      have hsh : fx_shr (area Z.2.2.2.1[r].2.2) (c : Int) = area Z.2.2.2.1[r].2.2 / ((2 ^ c : Nat) : Int) := by
        rw [fx_shr_eq ⟨by omega, by omega⟩ ⟨by omega, by omega⟩, Int.toNat_natCast]
      have hs1 : 0 ≤ fx_shr (area Z.2.2.2.1[r].2.2) (c : Int) ∧ fx_shr (area Z.2.2.2.1[r].2.2) (c : Int) ≤ 2147483647 := by
        rw [hsh]
        exact ⟨Int.ediv_nonneg hin.1 (Int.natCast_nonneg _), Int.le_trans (Int.ediv_le_self _ hin.1) hin.2⟩
      refine ⟨⟨⟨by omega, by omega⟩, ⟨by omega, by omega⟩⟩, fun h => by omega, fun _ => ⟨⟨by omega, by omega⟩, ⟨by omega, by omega⟩, fun hne => go (fun hl => absurd (hli.mpr hl) hne), fun he => ?_⟩⟩
      have hl := hli.mp he
      have hb := barS_b (R := Z.2.2.2.1[r]) hp hm hok.2.2.2.2.2.1
      refine au_sum ho hm (Or.inr hp) hz h52 hR (fun y hy => by have := hl.2 y hy; omega) (sp_isMultiple hb hm (s166_84 ?_)) Z.2.2.2.1[r].2.2.length 0 0 (by omega) rfl
      by_cases e0 : barS p Z.2.2.2.1[r] % m = 0
      · rw [if_pos e0]
        exact ⟨⟨by omega, by omega⟩, fun _ => go (fun _ => e0), fun h => by omega⟩
      · rw [if_neg e0]
        exact ⟨⟨by omega, by omega⟩, fun h => absurd rfl h, fun _ => K0 _ hRm hl e0⟩
  exact z Z.2.2.2.1.length 0 (by omega) (fun s R hs => by omega)
theorem barI_P (ho : pz_ok Z) {m : Int} {p : List Int} (hI : barI Z m p) (hl : (p.length : Int) = Z.1 * Z.2.1) : barP Z m p = decide (p.sum % m ≠ 0) := by
  unfold barP
  have h1 : (p.all fun y => decide (0 ≤ y ∧ y < m)) = true := by
    rw [List.all_eq_true]
    intro y hy
    obtain ⟨i, hi, rfl⟩ := List.mem_iff_getElem.mp hy
    have := hI.1 i hi
    rw [List.getD_eq_getElem?_getD, List.getElem?_eq_getElem hi, Option.getD_some] at this
    exact decide_eq_true this
  have h2 : (Z.2.2.2.1.all fun R => decide (barS p R % m = 0)) = true := by
    rw [List.all_eq_true]
    intro R hR
    refine decide_eq_true (hI.2 R hR (fun y hy => ?_))
    have := (ho.2.2.2.2.2.2.2.1 R hR).2.2.2.2.2.2.1 y hy
    omega
  rw [h1, h2]
  rfl
/-- paint: k cells are left -/
def ptSpec (L : Nat) (xs : Nat → Int32) (Z : PZ) (m : Int) (k : Nat) : Prop := ∀ (d : Nat) (Q : Option fx_V → fx_M → Prop) (p : List Int) (M : fx_M), ((p.length + k : Nat) : Int) = Z.1 * Z.2.1 → barI Z m p → cz M 11 Z → (∀ i : Nat, i < p.length → M 52 (i : Int) = p.getD i 0) → (sbx (barP Z m) p k = [] → ∀ M', (∀ b j, b ≠ 52 → M' b j = M b j) → (∀ i : Nat, i < p.length → M' 52 (i : Int) = p.getD i 0) → Q (some (jI 0)) M') → (∀ x A, sbx (barP Z m) p k = x :: A → ∀ M', (∀ b j, b ≠ 52 → M' b j = M b j) → (∀ i : Nat, i < x.length → M' 52 (i : Int) = x.getD i 0) → Q (some (jI 1)) M') → wc (kcs L xs) (d + k + 3) 164 [jR 50, jI p.length, jI m, jI p.sum] M Q
theorem pt_loop (ho : pz_ok Z) {m : Int} (hm : 2 ≤ m ∧ m ≤ 3) {k : Nat} (ih : ptSpec L xs Z m k) (d : Nat) (Q : Option fx_V → fx_M → Prop) {p : List Int} (hl : ((p.length + (k + 1) : Nat) : Int) = Z.1 * Z.2.1) (hI : barI Z m p) : ∀ (t : Nat) (M : fx_M), (t : Int) ≤ 4 → 4 - (t : Int) ≤ m → cz M 11 Z → (∀ i : Nat, i < p.length → M 52 (i : Int) = p.getD i 0) → (sbA (barP Z m) p k t = [] → ∀ M', (∀ b j, b ≠ 52 → M' b j = M b j) → (∀ i : Nat, i < p.length → M' 52 (i : Int) = p.getD i 0) → Q (some (jI 0)) M') → (∀ x A, sbA (barP Z m) p k t = x :: A → ∀ M', (∀ b j, b ≠ 52 → M' b j = M b j) → (∀ i : Nat, i < x.length → M' 52 (i : Int) = x.getD i 0) → Q (some (jI 1)) M') → wp (kcs L xs) (d + (k + 1) + 3) 164 34 [some (jR 50), some (jI p.length), some (jI m), some (jI p.sum), some (jI (4 - (t : Int)))] [] M Q := by
  have h9 := pz_n ho
  intro t
  induction t with
  | zero =>
    intro M ht hmt
    omega
  | succ t iht =>
    intro M ht hmt hz h52 K0 K1
    by_cases hlast : 4 - ((t + 1 : Nat) : Int) = m
    · refine s164_34 ⟨⟨⟨by omega, by omega⟩, ⟨by omega, by omega⟩⟩, fun _ => K0 (barP_hiA (by omega) (by omega)) M (fun _ _ _ => rfl) h52, fun h => by omega⟩
    · have ey : (3 : Int) - (t : Int) = 4 - ((t + 1 : Nat) : Int) := by omega
      rw [sbA_succ, ey] at K0 K1
      generalize hy : 4 - ((t + 1 : Nat) : Int) = y at K0 K1 hlast hmt ⊢
      have hpy : ∀ i : Nat, i < (p ++ [y]).length → 0 ≤ (p ++ [y]).getD i 0 ∧ (p ++ [y]).getD i 0 < m := fun i hi => by
        rw [List.length_append, List.length_singleton] at hi
        by_cases hip : i < p.length
        · rw [List.getD_eq_getElem?_getD, List.getElem?_append_left hip, ← List.getD_eq_getElem?_getD]
          exact hI.1 i hip
        · rw [show i = p.length by omega, List.getD_eq_getElem?_getD, List.getElem?_append_right (Nat.le_refl _), Nat.sub_self]
          show 0 ≤ y ∧ y < m
          omega
      have g52 : ∀ i : Nat, i < (p ++ [y]).length → (fx_up M 52 (p.length : Int) y) 52 (i : Int) = (p ++ [y]).getD i 0 := fun i hi => by
        rw [List.length_append, List.length_singleton] at hi
        by_cases hip : i < p.length
        · rw [fx_up_nk (by omega), List.getD_eq_getElem?_getD, List.getElem?_append_left hip, ← List.getD_eq_getElem?_getD]
          exact h52 i hip
        · rw [show i = p.length by omega, fx_up_self, List.getD_eq_getElem?_getD, List.getElem?_append_right (Nat.le_refl _), Nat.sub_self]
          rfl
      have hz1 : cz (fx_up M 52 (p.length : Int) y) 11 Z := cz_fr hz (fun b j h1 h2 => fx_up_na (by omega))
      have hlen : (p ++ [y]).length = p.length + 1 := by rw [List.length_append, List.length_singleton]
      have nxt : ∀ M1 : fx_M, (∀ b j, b ≠ 52 → M1 b j = M b j) → (∀ i : Nat, i < p.length → M1 52 (i : Int) = p.getD i 0) → sbx (barP Z m) (p ++ [y]) k = [] → wp (kcs L xs) (d + (k + 1) + 3) 164 34 [some (jR 50), some (jI p.length), some (jI m), some (jI p.sum), some (jI (y + 1))] [] M1 Q := fun M1 f1 g1 he => by
        rw [he, List.nil_append] at K0 K1
        have nx := iht M1 (by omega) (by omega) (cz_fr hz (fun b j h1 h2 => f1 b j (by omega))) g1 (fun h M' f2 g2 => K0 h M' (fun b j hb => by rw [f2 b j hb, f1 b j hb]) g2) (fun x A h M' f2 g2 => K1 x A h M' (fun b j hb => by rw [f2 b j hb, f1 b j hb]) g2)
        rw [show (4 : Int) - (t : Int) = y + 1 by omega] at nx
        exact nx
      have gp : ∀ M1 : fx_M, (∀ i : Nat, i < (p ++ [y]).length → M1 52 (i : Int) = (p ++ [y]).getD i 0) → ∀ i : Nat, i < p.length → M1 52 (i : Int) = p.getD i 0 := fun M1 g i hi => by
        rw [g i (by omega), List.getD_eq_getElem?_getD, List.getElem?_append_left hi, ← List.getD_eq_getElem?_getD]
      refine s164_34 ⟨⟨⟨by omega, by omega⟩, ⟨by omega, by omega⟩⟩, fun h => by omega, fun _ => ⟨⟨by omega, by omega⟩, ?_⟩⟩
      have dd : d + (k + 1) + 2 = (d + (k + 1)) + 2 := rfl
      refine sp_addUp (p := p ++ [y]) ho hm hlen (by omega) hpy hz1 g52 (fun R hR hlas hne => s164_54 ⟨⟨by omega, by omega⟩, fun _ => nxt _ (fun b j hb => fx_up_na hb) (gp _ g52) ?_, fun h => absurd rfl h⟩) (fun hall => s164_54 ⟨⟨by omega, by omega⟩, fun h => by omega, fun _ => ?_⟩)
      · refine sbx_nil (fun u _ => ?_)
        unfold barP
        have hb : (Z.2.2.2.1.all fun R => decide (barS (p ++ [y] ++ u) R % m = 0)) = false := by
          rw [List.all_eq_false]
          refine ⟨R, hR, ?_⟩
          rw [barS_pre (fun c hc => ?_)]
          · simpa using hne
          · have h1 := hlas.2 c hc
            have h2 := pr_c9 ho hR c hc
            omega
        rw [hb]
        simp
      · have hI1 : barI Z m (p ++ [y]) := ⟨hpy, fun R hR hR1 => by
          by_cases hin : ((p.length : Nat) : Int) ∈ R.2.2
          · exact hall R hR ⟨hin, fun z hz => by have := hR1 z hz; omega⟩
          · have h3 : ∀ z ∈ R.2.2, z < (p.length : Int) := fun z hz => by
              have h4 := hR1 z hz
              have h5 : z ≠ (p.length : Int) := fun e => hin (by rw [← e]; exact hz)
              omega
            rw [barS_pre (fun c hc => ⟨(pr_c9 ho hR c hc).1, h3 c hc⟩)]
            exact hI.2 R hR h3⟩
        have sp := ih d (fun v M1 => wp (kcs L xs) (d + (k + 1) + 3) 164 69 [some (jR 50), some (jI p.length), some (jI m), some (jI p.sum), some (jI y)] (v.toList ++ []) M1 Q) (p ++ [y]) (fx_up M 52 (p.length : Int) y) (by rw [hlen]; omega) hI1 hz1 g52 (fun he M' f1 g1 => s164_69 ⟨⟨by omega, by omega⟩, fun _ => nxt M' (fun b j hb => by rw [f1 b j hb, fx_up_na hb]) (gp _ g1) he, fun h => absurd rfl h⟩) (fun x A he M' f1 g1 => s164_69 ⟨⟨by omega, by omega⟩, fun h => by omega, fun _ => K1 x (A ++ sbA (barP Z m) p k t) (by rw [he]; rfl) M' (fun b j hb => by rw [f1 b j hb, fx_up_na hb]) g1⟩)
        rw [hlen, sum_app1, show ((p.length + 1 : Nat) : Int) = (p.length : Int) + 1 by omega, show d + k + 3 = d + (k + 1) + 2 by omega] at sp
        exact sp
theorem pt_all (ho : pz_ok Z) {m : Int} (hm : 2 ≤ m ∧ m ≤ 3) : ∀ k : Nat, ptSpec L xs Z m k := by
  have h9 := pz_n ho
  intro k
  induction k with
  | zero =>
    intro d Q p M hl hI hz h52 K0 K1
    have hP := barI_P ho hI (by omega)
    have hs := sum_b (m := m) (p := p) (fun y hy => by
      obtain ⟨i, hi, rfl⟩ := List.mem_iff_getElem.mp hy
      have := hI.1 i hi
      rw [List.getD_eq_getElem?_getD, List.getElem?_eq_getElem hi, Option.getD_some] at this
      exact this)
    have hs2 : (p.length : Int) * m ≤ 9 * 3 := Int.mul_le_mul (by omega) (by omega) (by omega) (by omega)
    refine s164 ?_
    rw [hz.2.2.1]
    refine ⟨⟨⟨by omega, by omega⟩, ⟨by omega, by omega⟩⟩, fun _ => sp_isMultiple (d := d + 1) ⟨by omega, by omega⟩ hm (s164_22 ?_), fun h => by omega⟩
    rw [sbx_zero, hP] at K0 K1
    by_cases e : p.sum % m = 0
    · rw [if_pos e]
      refine ⟨⟨by omega, by omega⟩, ⟨by rw [if_neg (by decide)]; omega, by rw [if_neg (by decide)]; omega⟩, ?_⟩
      rw [if_neg (by decide)]
      exact K0 (by simp [e]) M (fun _ _ _ => rfl) h52
    · rw [if_neg e]
      refine ⟨⟨by omega, by omega⟩, ⟨by rw [if_pos rfl]; omega, by rw [if_pos rfl]; omega⟩, ?_⟩
      rw [if_pos rfl]
      exact K1 p [] (by simp [e]) M (fun _ _ _ => rfl) h52
  | succ k ih =>
    intro d Q p M hl hI hz h52 K0 K1
    refine s164 ?_
    rw [hz.2.2.1]
    refine ⟨⟨⟨by omega, by omega⟩, ⟨by omega, by omega⟩⟩, fun h => by omega, fun _ => ⟨⟨by omega, by omega⟩, fun _ => ?_, fun h => by omega⟩⟩
    rw [sbx_succ] at K0 K1
    have := pt_loop ho hm ih d Q hl hI 4 M (by omega) (by omega) hz h52 K0 K1
    rw [show (4 : Int) - ((4 : Nat) : Int) = 0 by omega] at this
    exact this
theorem ba_text (ho : pz_ok Z) {x : List Int} (hx : (x.length : Int) = Z.1 * Z.2.1) (hv : ∀ i : Nat, i < x.length → 0 ≤ x.getD i 0 ∧ x.getD i 0 < 10) : ∀ (t i : Nat) (M : fx_M), i + t = x.length → cz M 11 Z → o_ok M 3 → (∀ i : Nat, i < x.length → M 52 (i : Int) = x.getD i 0) → Q none (o_app M 3 (tFil (x.drop i))) → wp (kcs L xs) (d + 2) 163 45 [some (jR 50), none, some (jI i)] [] M Q := by
  have h9 := pz_n ho
  intro t
  induction t with
  | zero =>
    intro i M hi hz hO h52 K
    refine s163_45 ?_
    rw [hz.2.2.1]
    refine ⟨⟨⟨by omega, by omega⟩, ⟨by omega, by omega⟩⟩, fun _ => ?_, fun h => by omega⟩
    rw [List.drop_eq_nil_of_le (by omega)] at K
    exact K
  | succ t ih =>
    intro i M hi hz hO h52 K
    have hil : i < x.length := by omega
    have hb := hv i hil
    refine s163_45 ?_
    rw [hz.2.2.1, h52 i hil]
    refine ⟨⟨⟨by omega, by omega⟩, ⟨by omega, by omega⟩⟩, fun h => by omega, fun _ => ⟨⟨by omega, by omega⟩, sp_number out3 hO (by omega) (by omega) (s163_69 ?_)⟩⟩
    have nx := ih (i + 1) (o_app M 3 (dgs (x.getD i 0))) (by omega) (cz_app puz11 out3 hz) (o_ok_app hO) (fun j hj => by rw [o_app_n3 (by omega) (by decide)]; exact h52 j hj) (by
      rw [o_app_app, dgs_1 ⟨by omega, by omega⟩]
      rw [drop_consD hil] at K
      exact K)
    rw [show ((i + 1 : Nat) : Int) = (i : Int) + 1 by omega] at nx
    exact nx
theorem bar_len {m : Int} {x : List Int} {A : List (List Int)} (h : barL Z m = x :: A) : x.length = (Z.1 * Z.2.1).toNat ∧ ∀ i : Nat, i < x.length → 0 ≤ x.getD i 0 ∧ x.getD i 0 < 10 := by
  have hx : x ∈ barL Z m := by rw [h]; exact List.mem_cons_self ..
  obtain ⟨⟨t, h1, h2⟩, _⟩ := mem_sbx.mp hx
  rw [List.nil_append] at h2
  subst h2
  obtain ⟨h3, h4⟩ := mem_fils.mp h1
  refine ⟨h3, fun i hi => ?_⟩
  have := h4 _ (List.getElem_mem hi)
  rw [List.getD_eq_getElem?_getD, List.getElem?_eq_getElem hi, Option.getD_some]
  omega
theorem sp_barred {M : fx_M} (ho : pz_ok Z) (hz : cz M 11 Z) (hO : o_ok M 3) (K : ∀ M', cwr M M' (tBar Z) → Q none M') : wc (kcs L xs) (d + 14) 163 [jR 50] M Q := by
  have h9 := pz_n ho
  have hn : ((((Z.1 * Z.2.1).toNat : Nat)) : Int) = Z.1 * Z.2.1 := by omega
  have w52 : ∀ {N N' : fx_M}, (∀ b j, b ≠ 52 → N' b j = N b j) → cwr N N' [] := fun f b j hb => f b j (fun e => hb (by unfold csc; omega))
  have fin : ∀ (m : Int) (x : List Int) (A : List (List Int)) (N : fx_M), 2 ≤ m ∧ m ≤ 3 → barL Z m = x :: A → cwr M N [] → (∀ i : Nat, i < x.length → N 52 (i : Int) = x.getD i 0) → wls (wrd 24) ++ [32, 48 + m, 32] ++ tFil x = tBar Z → wp (kcs L xs) (d + 14) 163 14 [some (jR 50), some (jI m), none] [jI 1] N Q := fun m x A N hm hA hw g e => by
    obtain ⟨b1, b2⟩ := bar_len hA
    have hON := cwr_ok hw hO
    have hzN := cz_cwr hz hw
    refine s163_14 ⟨⟨by omega, by omega⟩, fun h => by omega, fun _ => sp_puts (d := d + 9) out3 lt_1000121 hON (s163_26 (sp_number (d := d + 12) out3 (o_ok_app hON) (by omega) (by omega) (s163_34 (sp_put (d := d + 12) out3 (o_ok_app (o_ok_app hON)) ⟨by omega, by omega⟩ (s163_43 ?_)))))⟩
    refine ba_text (d := d + 12) ho (by omega) b2 x.length 0 _ (by omega) ?_ (o_ok_put (o_ok_app (o_ok_app hON))) (fun i hi => ?_) (K _ ?_)
    · exact cz_fr hzN (fun b j h1 h2 => by rw [o_put_n3 (by omega) (by omega), o_app_n3 (by omega) (by omega), o_app_n3 (by omega) (by omega)])
    · rw [o_put_n3 (by omega) (by decide), o_app_n3 (by omega) (by decide), o_app_n3 (by omega) (by decide)]
      exact g i hi
    · rw [List.drop_zero, ← e]
      have h1 := cwr_tr (cwr_tr (cwr_tr (cwr_tr hw (cwr_app (cs := ([98, 97, 114, 114, 101, 100, 32] : List Int32).map Int32.toInt))) (cwr_app (cs := dgs m))) (cwr_put (c := 32))) (cwr_app (cs := tFil x))
      rw [dgs_1 ⟨by omega, by omega⟩, show ([98, 97, 114, 114, 101, 100, 32] : List Int32).map Int32.toInt = wls (wrd 24) ++ [32] by decide +kernel] at h1 ⊢
      simpa using h1
  have run : ∀ (m : Int) (N : fx_M), 2 ≤ m ∧ m ≤ 3 → cwr M N [] → (∀ N', cwr M N' [] → barL Z m = [] → wp (kcs L xs) (d + 14) 163 14 [some (jR 50), some (jI m), none] [jI 0] N' Q) → (∀ x A, barL Z m = x :: A → wls (wrd 24) ++ [32, 48 + m, 32] ++ tFil x = tBar Z) → wp (kcs L xs) (d + 14) 163 2 [some (jR 50), some (jI m), none] [] N Q := fun m N hm hw H0 H1 => by
    have sp := pt_all (L := L) (xs := xs) ho hm (Z.1 * Z.2.1).toNat (d + 10 - (Z.1 * Z.2.1).toNat) (fun v M1 => wp (kcs L xs) (d + 14) 163 14 [some (jR 50), some (jI m), none] (v.toList ++ []) M1 Q) [] N (by simp; omega) ⟨fun i hi => by simp at hi, fun R hR h => by
      exfalso
      have hok := ho.2.2.2.2.2.2.2.1 R hR
      have hl := hok.2.2.2.2.1
      have h1 := List.getElem_mem (l := R.2.2) (n := 0) (by omega)
      have h2 := h _ h1
      have h3 := (pr_c9 ho hR _ h1).1
      simp at h2
      omega⟩ (cz_cwr hz hw) (fun i hi => by simp at hi) (fun h0 N' f _ => H0 N' (cwr_0 (cwr_tr hw (w52 f))) h0) (fun x A h N' f g => fin m x A N' hm h (cwr_0 (cwr_tr hw (w52 f))) g (H1 x A h))
    rw [show d + 10 - (Z.1 * Z.2.1).toNat + (Z.1 * Z.2.1).toNat + 3 = d + 13 by omega] at sp
    exact s163_2 ⟨⟨by omega, by omega⟩, fun h => by omega, fun _ => sp⟩
  refine s163 (run 2 M ⟨by omega, by omega⟩ cwr_rf (fun N' w0 h0 => s163_14 ⟨⟨by omega, by omega⟩, fun _ => ?_, fun h => absurd rfl h⟩) (fun x A h => by unfold tBar; rw [h]; rfl))
  refine run 3 N' ⟨by omega, by omega⟩ w0 (fun N'' w1 h1 => s163_14 ⟨⟨by omega, by omega⟩, fun _ => ?_, fun h => absurd rfl h⟩) (fun x A h => by unfold tBar; rw [h0, h]; rfl)
  refine s163_2 ⟨⟨by omega, by omega⟩, fun _ => sp_puts (d := d + 9) out3 lt_1000123 (cwr_ok w1 hO) (s163_91 (K _ ?_)), fun h => by omega⟩
  have h2 := cwr_tr w1 (cwr_app (cs := ([111, 112, 101, 110] : List Int32).map Int32.toInt))
  rw [List.nil_append] at h2
  unfold tBar
  rw [h0, h1]
  rw [show ([111, 112, 101, 110] : List Int32).map Int32.toInt = wls (wrd 38) by decide +kernel] at h2
  exact h2
end CBA
