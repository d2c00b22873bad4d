/-! The class: findOne, writeReason, goOn. -/
theorem jnC_none {R : PR} : jnC R none = R.2.2 := by
  unfold jnC
  rw [List.append_nil]
theorem out1 {Z : PZ} {R : PR} {S : Nat → Nat} (hn : R.2.2.Nodup) {i y : Nat} (hi : i < R.2.2.length) : isOut Z R none S (R.2.2.getD i 0) y ↔ ((S (R.2.2.getD i 0).toNat).testBit y = true ∧ ¬ sup Z.1 R S i y = true) := by
  unfold isOut
  rw [jnC_none]
  apply and_congr_right
  intro _
  apply not_congr
  rw [sup_f hn hi]
  constructor
  · rintro ⟨f, h1, h2, h3⟩
    exact ⟨f, ⟨h1, h2.1⟩, h3⟩
  · rintro ⟨f, ⟨h1, h2⟩, h3⟩
    exact ⟨f, h1, ⟨h2, fun R2 h => by cases h⟩, h3⟩
theorem shr_nib {f i : Nat} (hf : f < 65536) (hi : i < 4) : ∃ g : Nat, g < 65536 ∧ fx_shr (f : Int) (4 * (i : Int)) = (g : Int) ∧ ∀ y, g.testBit y = f.testBit (4 * i + y) := by
  refine ⟨f / 2 ^ (4 * i), Nat.lt_of_le_of_lt (Nat.div_le_self _ _) hf, ?_, fun y => ?_⟩
  · rw [fx_shr_eq ⟨by omega, by omega⟩ ⟨by omega, by omega⟩, show (4 * (i : Int)).toNat = 4 * i by omega]
    rw [← Int.natCast_ediv]
  · rw [Nat.testBit_div_two_pow, Nat.add_comm]
def secN (s : Option PR) : Int := match s with
  | none => 0
  | some R2 => (R2.2.2.length : Int)
def secC (R : PR) (s : Option PR) : List Int := match s with
  | none => []
  | some R2 => R2.2.2.filter fun e => !(R.2.2.contains e)
theorem jnC_sec {R : PR} {s : Option PR} : jnC R s = R.2.2 ++ secC R s := by cases s <;> rfl
theorem nc_in {l : List Int} {e : Int} (h : e ∈ l) : ¬ ((!(l.contains e)) = true) := by simp [h]
theorem nc_out {l : List Int} {e : Int} (h : ¬ e ∈ l) : (!(l.contains e)) = true := by simp [h]
section CGO
variable {L : Nat} {xs : Nat → Int32} {d : Nat} {Q : Option fx_V → fx_M → Prop} {Z : PZ} {S : Nat → Nat}
/-- what findOne may change -/
def f31 (M N : fx_M) : Prop := ∀ b j, ¬ (b = 31 ∧ (j = 3 ∨ j = 5 ∨ j = 6)) → N b j = M b j
theorem fo_cell (ho : pz_ok Z) {M : fx_M} (hc : ckn M 11 Z) (hs : s_ok Z S) {v : Int} (hv : sta v S) {R : PR} {r : Nat} (hR : Z.2.2.2.1[r]? = some R) {f : Nat} (hf : f < 65536) (hfb : ∀ i y : Nat, i < 4 → y < 4 → f.testBit (4 * i + y) = sup Z.1 R S i y) (K1 : ∀ c y, fCl Z R none S R.2.2 = some (c, y) → ∀ M', f31 M M' → M' 31 3 = (r : Int) → M' 31 5 = c → M' 31 6 = (y : Int) → Q (some (jI 1)) M') (K0 : fCl Z R none S R.2.2 = none → wp (kcs L xs) (d + 3) 110 2 [some (jR 31), some (jL v), none, some (jI ((r : Int) + 1)), none, none, none, none] [] M Q) : ∀ (t i : Nat), i + t = R.2.2.length → fCl Z R none S R.2.2 = fCl Z R none S (R.2.2.drop i) → wp (kcs L xs) (d + 3) 110 27 [some (jR 31), some (jL v), none, some (jI r), some (jI f), some (jI i), none, none] [] M Q := by
  obtain ⟨hRo, hr12⟩ := rule_in ho hR
  have h9 := pz_n ho
  have l4 := hRo.2.2.2.2.2.1
  have hn := hRo.2.2.2.2.2.2.2
  obtain ⟨a1, a2, a3, a4, a5⟩ := hc.1.2.2.2.2.2.1 r R hR
  intro t
  induction t with
  | zero =>
    intro i hi he
    refine s110_27 ?_
    rw [show M 14 (r : Int) = R.2.2.length from a3]
    refine ⟨⟨by omega, by omega⟩, ⟨⟨by omega, by omega⟩, ⟨by omega, by omega⟩⟩, fun _ => K0 ?_, fun h => by omega⟩
    rw [he, List.drop_eq_nil_of_le (by omega)]
    rfl
  | succ t ih =>
    intro i hi he
    have hil : i < R.2.2.length := by omega
    have hcb := hRo.2.2.2.2.2.2.1 _ (getD_mem hil)
    obtain ⟨cn, ecn⟩ : ∃ cn : Nat, R.2.2.getD i 0 = (cn : Int) := ⟨(R.2.2.getD i 0).toNat, by omega⟩
    have e15 : M 15 (4 * (r : Int) + (i : Int)) = (cn : Int) := by
      have := a4 i (by omega)
      rw [show M 15 (4 * (r : Int) + (i : Int)) = R.2.2.getD i 9 from this, ← ecn, List.getD_eq_getElem?_getD, List.getD_eq_getElem?_getD, List.getElem?_eq_getElem hil]
      rfl
    have h16 := s_ok_16 ho hs (c := cn) (by omega)
    obtain ⟨b, hb16, eb, hbb⟩ := shr_nib hf (show i < 4 by omega)
    obtain ⟨g, eg, hgle, hg⟩ := and_not (a := S cn) (b := b) (by omega) (by omega)
    have hgb : ∀ y : Nat, y < 4 → (g.testBit y = true ↔ isOut Z R none S (R.2.2.getD i 0) y) := fun y hy => by
      rw [out1 hn hil, hg, Bool.and_eq_true, Bool.not_eq_true', ← Bool.not_eq_true, hbb, hfb i y (by omega) hy, ecn, Int.toNat_natCast]
    have hh := ouH_bits (show g < 16 by omega) hgb
    have hd : fCl Z R none S (R.2.2.drop i) = match ouH Z R none S (R.2.2.getD i 0) with
      | some y => some (R.2.2.getD i 0, y)
      | none => fCl Z R none S (R.2.2.drop (i + 1)) := by
      rw [drop_consD hil, fCl]
      rfl
    refine s110_27 ?_
    rw [show M 14 (r : Int) = R.2.2.length from a3, e15]
    refine ⟨⟨by omega, by omega⟩, ⟨⟨by omega, by omega⟩, ⟨by omega, by omega⟩⟩, fun h => by omega, fun _ => ⟨⟨by omega, by omega⟩, sp_may hv ⟨by omega, by omega⟩ (by rw [Int.toNat_natCast]; exact h16) (s110_63 ?_)⟩⟩
    rw [Int.toNat_natCast, eb, eg]
    refine ⟨⟨by omega, by omega⟩, fun h0 => ?_, fun hne => ?_⟩
    · have nx := ih (i + 1) (by omega) (by rw [he, hd, hh.1 (by omega)])
      rw [show ((i + 1 : Nat) : Int) = (i : Int) + 1 by omega] at nx
      exact nx
    · refine sp_lowest (by omega) (by omega) (s110_97 (K1 (cn : Int) (lowb g) (by rw [he, hd, hh.2 (by omega), ecn]) _ (fun b j hb => ?_) ?_ ?_ ?_))
      · rw [fx_up_ne (by omega), fx_up_ne (by omega), fx_up_ne (by omega)]
      · rw [fx_up_nk (by decide), fx_up_nk (by decide), fx_up_self]
      · rw [fx_up_nk (by decide), fx_up_self]
      · rw [fx_up_self]
theorem fo_rules (ho : pz_ok Z) {M : fx_M} (hc : ckn M 11 Z) (hs : s_ok Z S) {v : Int} (hv : sta v S) (K1 : ∀ r R c y, fO1 Z S Z.2.2.2.1 0 = some (r, c, y) → Z.2.2.2.1[r]? = some R → ∀ M', f31 M M' → M' 31 3 = (r : Int) → M' 31 5 = c → M' 31 6 = (y : Int) → Q (some (jI 1)) M') (K0 : fO1 Z S Z.2.2.2.1 0 = none → Q (some (jI 0)) M) : ∀ (t r : Nat), r + t = Z.2.2.2.1.length → fO1 Z S Z.2.2.2.1 0 = fO1 Z S (Z.2.2.2.1.drop r) r → wp (kcs L xs) (d + 3) 110 2 [some (jR 31), some (jL v), none, some (jI r), none, none, none, none] [] M Q := by
  have h12 := ho.2.2.2.2.2.2.1
  intro t
  induction t with
  | zero =>
    intro r hr he
    refine s110_2 ?_
    rw [hc.1.2.2.2.2.1]
    refine ⟨⟨⟨by omega, by omega⟩, ⟨by omega, by omega⟩⟩, fun _ => K0 ?_, fun h => by omega⟩
    rw [he, List.drop_eq_nil_of_le (by omega)]
    rfl
  | succ t ih =>
    intro r hr he
    have hrl : r < Z.2.2.2.1.length := by omega
    have hR := List.getElem?_eq_getElem hrl
    have hd : fO1 Z S (Z.2.2.2.1.drop r) r = match fCl Z Z.2.2.2.1[r] none S (Z.2.2.2.1[r]).2.2 with
      | some q => some (r, q)
      | none => fO1 Z S (Z.2.2.2.1.drop (r + 1)) (r + 1) := by
      rw [List.drop_eq_getElem_cons hrl, fO1, jnC_none]
      rfl
    refine s110_2 ?_
    rw [hc.1.2.2.2.2.1]
    refine ⟨⟨⟨by omega, by omega⟩, ⟨by omega, by omega⟩⟩, fun h => by omega, fun _ => sp_supports puz11 hc ho hs hv hR (fun f hf hfb => s110_22 ?_)⟩
    refine fo_cell ho hc hs hv hR hf hfb (fun c y e M1 f1 e3 e5 e6 => K1 r _ c y (by rw [he, hd, e]) hR M1 f1 e3 e5 e6) (fun e => ?_) (Z.2.2.2.1[r]).2.2.length 0 (by omega) (by rw [List.drop_zero])
    have nx := ih (r + 1) (by omega) (by rw [he, hd, e])
    rw [show ((r + 1 : Nat) : Int) = (r : Int) + 1 by omega] at nx
    exact nx
theorem sp_findOne (ho : pz_ok Z) {M : fx_M} (hc : ckn M 11 Z) (hs : s_ok Z S) {v : Int} (hv : sta v S) (K1 : ∀ r R c y, fO1 Z S Z.2.2.2.1 0 = some (r, c, y) → Z.2.2.2.1[r]? = some R → ∀ M', f31 M M' → M' 31 3 = (r : Int) → M' 31 5 = c → M' 31 6 = (y : Int) → Q (some (jI 1)) M') (K0 : fO1 Z S Z.2.2.2.1 0 = none → Q (some (jI 0)) M) : wc (kcs L xs) (d + 3) 110 [jR 31, jL v] M Q :=
  s110 (fo_rules ho hc hs hv K1 K0 Z.2.2.2.1.length 0 (by omega) (by rw [List.drop_zero]))
/-- the complement of a cell's symbols -/
theorem all_not (ho : pz_ok Z) {M : fx_M} (hz : cz M 11 Z) {m : Nat} (hm : m < 16) : ∃ g : Nat, g < 16 ∧ fx_and (fx_shl 1 (M 11 3) - 1) (fx_xor (m : Int) (-1)) = (g : Int) ∧ ∀ y : Nat, y < 4 → (g.testBit y = true ↔ ((y : Int) < Z.2.2.1 ∧ ¬ m.testBit y = true)) := by
  have h1 := ho.2.2.2.2.1
  have h4 := ho.2.2.2.2.2.1
  have hp : (2 : Nat) ^ Z.2.2.1.toNat ≤ 2 ^ 4 := Nat.pow_le_pow_right (by decide) (by omega)
  have hp0 : 0 < (2 : Nat) ^ Z.2.2.1.toNat := Nat.pow_pos (by decide)
  simp only [Nat.reducePow] at hp
  have e : fx_shl 1 (M 11 3) - 1 = ((2 ^ Z.2.2.1.toNat - 1 : Nat) : Int) := by
    rw [hz.2.2.2.1, fx_shl_1 ⟨by omega, by omega⟩]
    omega
  rw [e]
  obtain ⟨g, eg, hgle, hg⟩ := and_not (a := 2 ^ Z.2.2.1.toNat - 1) (b := m) (by omega) (by omega)
  refine ⟨g, by omega, eg, fun y hy => ?_⟩
  rw [hg, Bool.and_eq_true, m1_bit, decide_eq_true_iff, Bool.not_eq_true', ← Bool.not_eq_true]
  constructor
  · rintro ⟨a, b⟩
    exact ⟨by omega, b⟩
  · rintro ⟨a, b⟩
    exact ⟨by omega, b⟩
/-- one cell of a reason -/
theorem wr_cell (ho : pz_ok Z) {M0 M : fx_M} (hc0 : cz M0 11 Z) (hs : s_ok Z S) {v : Int} (hv : sta v S) {c e : Int} {v5 v6 i : Int} (heb : 0 ≤ e ∧ e < Z.1 * Z.2.1) (hec : e ≠ c) {ds : List Int} (ho1 : cout M0 M ds) (hf : fOu M0 M) (K : ∀ M', cout M0 M' (ds ++ rsC Z S c e) → fOu M0 M' → wp (kcs L xs) (d + 2) 112 128 [some (jR 31), some (jL v), none, none, some (jI (fx_shl 1 (M0 11 3) - 1)), some (jI v5), some (jI v6), some (jI (i + 1)), none] [] M' Q) : wc (kcs L xs) (d + 1) 86 [jL v, jI e] M (fun w M1 => wp (kcs L xs) (d + 2) 112 236 [some (jR 31), some (jL v), none, none, some (jI (fx_shl 1 (M0 11 3) - 1)), some (jI v5), some (jI v6), some (jI i), none] (w.toList ++ [jI (fx_shl 1 (M0 11 3) - 1), jI e, jI 43, jR 3]) M1 Q) := by
  have h9 := pz_n ho
  have h16 := s_ok_16 ho hs (c := e.toNat) (by omega)
  refine sp_may hv ⟨by omega, by omega⟩ h16 (s112_236 ?_)
  obtain ⟨g, hg16, eg, hgb⟩ := all_not ho hc0 h16
  rw [eg]
  refine sp_literals ho1.ok ⟨by omega, by omega⟩ ⟨by omega, by omega⟩ hg16 (fun M2 o2 f2 => s112_242 (K M2 ?_ (fOu_tr hf f2)))
  have et : rsC Z S c e = tLt 43 e g := by
    unfold rsC
    rw [if_neg hec, tLt_not ho hgb]
  rw [et]
  exact cout_tr ho1 o2
/-- the cells of a second rule -/
theorem wr_two (ho : pz_ok Z) {M0 : fx_M} (hc0 : cz M0 11 Z) (hs : s_ok Z S) {v : Int} (hv : sta v S) {R R2 : PR} {r q : Nat} {c : Int} (hR : Z.2.2.2.1[r]? = some R) (hR2 : Z.2.2.2.1[q]? = some R2) (h3 : M0 31 3 = (r : Int)) (h4 : M0 31 4 = (q : Int)) (h5 : M0 31 5 = c) (hcb : 0 ≤ c ∧ c < 9) {cs : List Int} (K : ∀ M', cout M0 M' cs → fOu M0 M' → wc (kcs L xs) (d + 1) 69 [jR 3, jI 59] M' (fun w M1 => wp (kcs L xs) (d + 2) 112 257 [none, none, none, none, none, none, none, none, none] (w.toList ++ []) M1 Q)) : ∀ (t i : Nat) (M : fx_M) (ds : List Int), i + t = R2.2.2.length → cout M0 M ds → fOu M0 M → ds ++ ((R2.2.2.drop i).filter fun e => !(R.2.2.contains e)).flatMap (rsC Z S c) = cs → wp (kcs L xs) (d + 2) 112 128 [some (jR 31), some (jL v), none, none, some (jI (fx_shl 1 (M0 11 3) - 1)), some (jI (R.2.2.length : Nat)), some (jI ((R.2.2.length : Int) + (R2.2.2.length : Int))), some (jI ((R.2.2.length : Int) + (i : Int))), none] [] M Q := by
  obtain ⟨hRo, hr12⟩ := rule_in ho hR
  obtain ⟨hR2o, hq12⟩ := rule_in ho hR2
  have h9 := pz_n ho
  have l1 := hRo.2.2.2.2.2.1
  have l2 := hR2o.2.2.2.2.2.1
  obtain ⟨-, -, -, -, a5⟩ := hc0.2.2.2.2.2.1 r R hR
  obtain ⟨-, -, -, b4, -⟩ := hc0.2.2.2.2.2.1 q R2 hR2
  have hcl : ∀ x ∈ R.2.2, 0 ≤ x ∧ x < 31 := fun x hx => by have := hRo.2.2.2.2.2.2.1 x hx; omega
  intro t
  induction t with
  | zero =>
    intro i M ds hi ho1 hf he
    rw [List.drop_eq_nil_of_le (by omega)] at he
    have he : ds = cs := by rw [← he]; simp
    subst he
    exact s112_128 ⟨⟨⟨by omega, by omega⟩, ⟨by omega, by omega⟩⟩, fun _ => K M ho1 hf, fun h => by omega⟩
  | succ t ih =>
    intro i M ds hi ho1 hf he
    have hil : i < R2.2.2.length := by omega
    have heb := hR2o.2.2.2.2.2.2.1 _ (getD_mem hil)
    have e15 : M 15 (4 * M 31 4 + ((R.2.2.length : Int) + (i : Int)) - (R.2.2.length : Int)) = R2.2.2.getD i 0 := by
      rw [hf 31 4 (by omega) (by decide), h4, hf 15 _ (by omega) (by decide), show 4 * (q : Int) + ((R.2.2.length : Int) + (i : Int)) - (R.2.2.length : Int) = 4 * (q : Int) + i by omega]
      have := b4 i (by omega)
      rw [show M0 15 (4 * (q : Int) + (i : Int)) = R2.2.2.getD i 9 from this, List.getD_eq_getElem?_getD, List.getD_eq_getElem?_getD, List.getElem?_eq_getElem hil]
      rfl
    have e16 : M 16 (M 31 3) = area R.2.2 := by
      rw [hf 31 3 (by omega) (by decide), h3, hf 16 _ (by omega) (by decide)]
      exact a5
    have hat := area_test (l := R.2.2) (c := R2.2.2.getD i 0) hcl ⟨heb.1, by omega⟩
    have m3 : M 31 3 = (r : Int) := by rw [hf 31 3 (by omega) (by decide)]; exact h3
    have m4 : M 31 4 = (q : Int) := by rw [hf 31 4 (by omega) (by decide)]; exact h4
    have m5 : M 31 5 = c := by rw [hf 31 5 (by omega) (by decide)]; exact h5
    rw [drop_consD hil, List.filter_cons] at he
    have go : ∀ M' ds', cout M0 M' ds' → fOu M0 M' → ds' ++ ((R2.2.2.drop (i + 1)).filter fun e => !(R.2.2.contains e)).flatMap (rsC Z S c) = cs → wp (kcs L xs) (d + 2) 112 128 [some (jR 31), some (jL v), none, none, some (jI (fx_shl 1 (M0 11 3) - 1)), some (jI (R.2.2.length : Nat)), some (jI ((R.2.2.length : Int) + (R2.2.2.length : Int))), some (jI ((R.2.2.length : Int) + (i : Int) + 1)), none] [] M' Q := fun M' ds' g1 g2 g3 => by
      have nx := ih (i + 1) M' ds' (by omega) g1 g2 g3
      rw [show (R.2.2.length : Int) + ((i + 1 : Nat) : Int) = (R.2.2.length : Int) + (i : Int) + 1 by omega] at nx
      exact nx
    refine s112_128 ⟨⟨⟨by omega, by omega⟩, ⟨by omega, by omega⟩⟩, fun h => by omega, fun _ => ?_⟩
    rw [if_neg (by omega), e15, e16, hat, m3, m4, m5]
    refine ⟨⟨by omega, by omega⟩, ⟨by omega, by omega⟩, fun _ => ⟨by omega, by omega⟩, fun h => by omega, ⟨⟨by omega, by omega⟩, ⟨by omega, by omega⟩⟩, fun heq => ?_, fun hne => ⟨⟨⟨by omega, by omega⟩, ⟨by omega, by omega⟩⟩, fun h => by omega, fun _ => ⟨⟨by omega, by omega⟩, by split <;> exact ⟨by omega, by omega⟩, fun hin => ?_, fun hout => ?_⟩⟩⟩
    · refine go M ds ho1 hf ?_
      rw [← he]
      by_cases hin : R2.2.2.getD i 0 ∈ R.2.2
      · rw [if_neg (nc_in hin)]
      · rw [if_pos (nc_out hin), List.flatMap_cons]
        have : rsC Z S c (R2.2.2.getD i 0) = [] := by
          unfold rsC
          rw [if_pos heq]
        rw [this, List.nil_append]
    · have hin2 : R2.2.2.getD i 0 ∈ R.2.2 := Classical.byContradiction fun h => by rw [if_neg h] at hin; exact hin rfl
      rw [if_neg (nc_in hin2)] at he
      exact go M ds ho1 hf he
    · have hin2 : ¬ R2.2.2.getD i 0 ∈ R.2.2 := fun h => by rw [if_pos h] at hout; omega
      rw [if_pos (nc_out hin2), List.flatMap_cons] at he
      exact wr_cell ho hc0 hs hv heb hne ho1 hf (fun M' g1 g2 => go M' _ g1 g2 (by rw [List.append_assoc]; exact he))
theorem wr_one (ho : pz_ok Z) {M0 : fx_M} (hc0 : cz M0 11 Z) (hs : s_ok Z S) {v : Int} (hv : sta v S) {R : PR} {s : Option PR} {r : Nat} {q c : Int} (hR : Z.2.2.2.1[r]? = some R) (hsec : sec Z q s) (h3 : M0 31 3 = (r : Int)) (h4 : 0 ≤ q → M0 31 4 = q) (h5 : M0 31 5 = c) (hcb : 0 ≤ c ∧ c < 9) {v6 : Int} (h6 : v6 = (R.2.2.length : Int) + secN s) {cs : List Int} (K : ∀ M', cout M0 M' cs → fOu M0 M' → wc (kcs L xs) (d + 1) 69 [jR 3, jI 59] M' (fun w M1 => wp (kcs L xs) (d + 2) 112 257 [none, none, none, none, none, none, none, none, none] (w.toList ++ []) M1 Q)) : ∀ (t i : Nat) (M : fx_M) (ds : List Int), i + t = R.2.2.length → cout M0 M ds → fOu M0 M → ds ++ (R.2.2.drop i).flatMap (rsC Z S c) ++ (secC R s).flatMap (rsC Z S c) = cs → wp (kcs L xs) (d + 2) 112 128 [some (jR 31), some (jL v), none, none, some (jI (fx_shl 1 (M0 11 3) - 1)), some (jI (R.2.2.length : Nat)), some (jI v6), some (jI i), none] [] M Q := by
  obtain ⟨hRo, hr12⟩ := rule_in ho hR
  have h9 := pz_n ho
  have l1 := hRo.2.2.2.2.2.1
  obtain ⟨-, -, -, a4, -⟩ := hc0.2.2.2.2.2.1 r R hR
  have h6b : (R.2.2.length : Int) ≤ v6 ∧ v6 ≤ 8 := by
    rcases hsec with ⟨h1, h2, h3⟩ | ⟨r2, R2, h1, h2, h3⟩
    · subst h3
      simp only [secN] at h6
      omega
    · subst h2
      simp only [secN] at h6
      have := (rule_in ho h3).1.2.2.2.2.2.1
      omega
  intro t
  induction t with
  | zero =>
    intro i M ds hi ho1 hf he
    rw [List.drop_eq_nil_of_le (by omega), List.flatMap_nil, List.append_nil] at he
    rw [show (i : Int) = (R.2.2.length : Int) by omega]
    rcases hsec with ⟨h1, h2, h3'⟩ | ⟨r2, R2, h1, h2, h3'⟩
    · subst h3'
      simp only [secN] at h6
      have he : ds = cs := by rw [← he]; simp [secC]
      subst he
      exact s112_128 ⟨⟨⟨by omega, by omega⟩, ⟨by omega, by omega⟩⟩, fun _ => K M ho1 hf, fun h => by omega⟩
    · subst h2
      simp only [secN] at h6
      rw [h6]
      have := wr_two (d := d) ho hc0 hs hv hR h3' h3 (by rw [h4 (by omega)]; exact h1) h5 hcb K R2.2.2.length 0 M ds (by omega) ho1 hf (by rw [List.drop_zero]; exact he)
      rw [show (R.2.2.length : Int) + ((0 : Nat) : Int) = (R.2.2.length : Int) by omega] at this
      exact this
  | succ t ih =>
    intro i M ds hi ho1 hf he
    have hil : i < R.2.2.length := by omega
    have heb := hRo.2.2.2.2.2.2.1 _ (getD_mem hil)
    have m3 : M 31 3 = (r : Int) := by rw [hf 31 3 (by omega) (by decide)]; exact h3
    have m5 : M 31 5 = c := by rw [hf 31 5 (by omega) (by decide)]; exact h5
    have e15 : M 15 (4 * M 31 3 + (i : Int)) = R.2.2.getD i 0 := by
      rw [m3, hf 15 _ (by omega) (by decide)]
      have := a4 i (by omega)
      rw [show M0 15 (4 * (r : Int) + (i : Int)) = R.2.2.getD i 9 from this, List.getD_eq_getElem?_getD, List.getD_eq_getElem?_getD, List.getElem?_eq_getElem hil]
      rfl
    rw [drop_consD hil, List.flatMap_cons] at he
    have go : ∀ M' ds', cout M0 M' ds' → fOu M0 M' → ds' ++ (R.2.2.drop (i + 1)).flatMap (rsC Z S c) ++ (secC R s).flatMap (rsC Z S c) = cs → wp (kcs L xs) (d + 2) 112 128 [some (jR 31), some (jL v), none, none, some (jI (fx_shl 1 (M0 11 3) - 1)), some (jI (R.2.2.length : Nat)), some (jI v6), some (jI ((i : Int) + 1)), none] [] M' Q := fun M' ds' g1 g2 g3 => by
      have nx := ih (i + 1) M' ds' (by omega) g1 g2 g3
      rw [show ((i + 1 : Nat) : Int) = (i : Int) + 1 by omega] at nx
      exact nx
    refine s112_128 ⟨⟨⟨by omega, by omega⟩, ⟨by omega, by omega⟩⟩, fun h => by omega, fun _ => ?_⟩
    rw [if_pos (show (i : Int) < ((R.2.2.length : Nat) : Int) by omega), e15, m3, m5]
    refine ⟨⟨by omega, by omega⟩, ⟨by omega, by omega⟩, fun h => by omega, fun _ => ⟨by omega, by omega⟩, ⟨⟨by omega, by omega⟩, ⟨by omega, by omega⟩⟩, fun heq => ?_, fun hne => ⟨⟨⟨by omega, by omega⟩, ⟨by omega, by omega⟩⟩, fun _ => ?_, fun h => by omega⟩⟩
    · refine go M ds ho1 hf ?_
      rw [← he]
      have : rsC Z S c (R.2.2.getD i 0) = [] := by
        unfold rsC
        rw [if_pos heq]
      rw [this, List.nil_append]
    · exact wr_cell ho hc0 hs hv heb hne ho1 hf (fun M' g1 g2 => go M' _ g1 g2 (by rw [← he]; simp only [List.append_assoc]))
theorem sp_writeReason (ho : pz_ok Z) {M : fx_M} (hc : cz M 11 Z) (hs : s_ok Z S) {v : Int} (hv : sta v S) {R : PR} {s : Option PR} {r : Nat} {q c : Int} {y : Nat} {x3 : Int} (hR : Z.2.2.2.1[r]? = some R) (hsec : sec Z q s) (hx3 : (x3 = 0 ∧ s = none) ∨ (x3 = 1 ∧ 0 ≤ q)) (h3 : M 31 3 = (r : Int)) (h4 : 0 ≤ q → M 31 4 = q) (h5 : M 31 5 = c) (h6 : M 31 6 = (y : Int)) (hcb : 0 ≤ c ∧ c < Z.1 * Z.2.1) (hy : y < 4) (hO : o_ok M 3) (K : ∀ M', cout M M' (tRs Z S R s r q c y) → fOu M M' → Q none M') : wc (kcs L xs) (d + 2) 112 [jR 31, jL v, jI x3] M Q := by
  obtain ⟨hRo, hr12⟩ := rule_in ho hR
  have h9 := pz_n ho
  have l1 := hRo.2.2.2.2.2.1
  obtain ⟨-, -, a3, -, -⟩ := hc.2.2.2.2.2.1 r R hR
  have e14 : M 14 (M 31 3) = R.2.2.length := by rw [h3]; exact a3
  -- the end of the line
  have fin : ∀ cs, cs ++ [59] = tRs Z S R s r q c y → ∀ M', cout M M' cs → fOu M M' → wc (kcs L xs) (d + 1) 69 [jR 3, jI 59] M' (fun w M1 => wp (kcs L xs) (d + 2) 112 257 [none, none, none, none, none, none, none, none, none] (w.toList ++ []) M1 Q) := fun cs hcs M' g1 g2 => by
    refine sp_put out3 g1.ok ⟨by omega, by omega⟩ (s112_257 (K _ ?_ (fOu_tr g2 fOu_put)))
    have := cout_tr g1 (cout_put (c := 59) g1.ok)
    rw [hcs] at this
    exact this
  -- the literal that is taken, and the others
  have lits : ∀ (hd : List Int) (M1 : fx_M) (v6 : Int), cout M M1 hd → fOu M M1 → v6 = (R.2.2.length : Int) + secN s → hd ++ lit 45 c y ++ (jnC R s).flatMap (rsC Z S c) ++ [59] = tRs Z S R s r q c y → wc (kcs L xs) (d + 1) 107 [jR 3, jI 45, jI (M1 31 5), jI (fx_shl 1 (M1 31 6))] M1 (fun w M2 => wp (kcs L xs) (d + 2) 112 125 [some (jR 31), some (jL v), none, none, some (jI (fx_shl 1 (M 11 3) - 1)), some (jI (R.2.2.length : Nat)), some (jI v6), none, none] (w.toList ++ []) M2 Q) := fun hd M1 v6 g1 g2 e6 he => by
    rw [g2 31 5 (by omega) (by decide), g2 31 6 (by omega) (by decide), h5, h6, fx_shl_1 ⟨by omega, by omega⟩, Int.toNat_natCast]
    refine sp_literals g1.ok ⟨by omega, by omega⟩ ⟨by omega, by omega⟩ (pow_16 ⟨y, hy⟩) (fun M2 o2 f2 => s112_125 ?_)
    rw [show tLt 45 c (2 ^ y) = lit 45 c y from tLt_pow 45 c ⟨y, hy⟩] at o2
    refine wr_one (d := d) (M0 := M) ho hc hs hv hR hsec h3 h4 h5 ⟨hcb.1, by omega⟩ e6 (cs := hd ++ lit 45 c y ++ (jnC R s).flatMap (rsC Z S c)) (fin _ he) R.2.2.length 0 M2 (hd ++ lit 45 c y) (by omega) (cout_tr g1 o2) (fOu_tr g2 f2) ?_
    rw [List.drop_zero]
    rw [jnC_sec, List.flatMap_append]
    simp only [List.append_assoc]
  have e0 : ∀ c0 : Int, o_app (o_put M 3 c0) 3 (dgs (r : Int)) = o_app M 3 ([c0] ++ dgs (r : Int)) := fun c0 => rfl
  rcases hx3 with ⟨hx, hsn⟩ | ⟨hx, hq⟩
  · subst hx hsn
    refine s112 ⟨by rw [h3]; omega, ⟨by omega, by omega⟩, fun h => absurd rfl h, ⟨by omega, by omega⟩, ?_⟩
    rw [if_pos rfl, if_pos rfl, e14]
    refine sp_put out3 hO ⟨by omega, by omega⟩ (s112_71 ?_)
    rw [o_put_n3 (b := 31) (j := 3) (by omega) (by decide), h3]
    refine sp_number out3 (o_ok_put hO) (by omega) (by omega) (s112_82 ⟨⟨by omega, by omega⟩, fun _ => ?_, fun h => absurd rfl h⟩)
    rw [e0]
    exact lits _ _ _ (cout_app hO) fOu_app (by simp [secN]) rfl
  · rcases hsec with ⟨h1, h2, h3'⟩ | ⟨r2, R2, h1, h2, h3'⟩
    · omega
    · subst hx h2
      have hq12 := (rule_in ho h3').2
      obtain ⟨-, -, b3, -, -⟩ := hc.2.2.2.2.2.1 r2 R2 h3'
      have e14b : M 14 (M 31 4) = R2.2.2.length := by rw [h4 hq, h1]; exact b3
      refine s112 ⟨by rw [h3]; omega, ⟨by omega, by omega⟩, fun _ => by rw [h4 hq]; omega, ⟨by omega, by omega⟩, ?_⟩
      rw [if_neg (by decide), if_neg (by decide), e14, e14b]
      refine sp_put out3 hO ⟨by omega, by omega⟩ (s112_71 ?_)
      rw [o_put_n3 (b := 31) (j := 3) (by omega) (by decide), h3]
      refine sp_number out3 (o_ok_put hO) (by omega) (by omega) (s112_82 ⟨⟨by omega, by omega⟩, fun h => by omega, fun _ => ?_⟩)
      rw [e0]
      refine sp_put out3 (o_ok_app hO) ⟨by omega, by omega⟩ (s112_95 ?_)
      rw [o_put_n3 (b := 31) (j := 4) (by omega) (by decide), o_app_n3 (b := 31) (j := 4) (by omega) (by decide), h4 hq]
      refine sp_number out3 (o_ok_put (o_ok_app hO)) (by omega) (by omega) (s112_106 ?_)
      have e1 : o_app (o_put (o_app M 3 ([119] ++ dgs (r : Int))) 3 32) 3 (dgs q) = o_app M 3 ([119] ++ dgs (r : Int) ++ 32 :: dgs q) := by
        rw [← o_app_app (ds := 32 :: dgs q)]
        rfl
      rw [e1]
      exact lits _ _ _ (cout_app hO) fOu_app rfl rfl
end CGO
