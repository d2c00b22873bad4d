/-! Proofs as they are read: literals, lines; the class's literal. -/
/-- a literal: sign (0: so), cell, symbol -/
abbrev LT : Type := Int × Int × Int
/-- a line: kind, number, second number, literals -/
abbrev LN : Type := Int × Int × Int × List LT
def bsL : List Int32 := [103, 32, 114, 32, 119, 32, 117, 32, 98]
def bsG : List Int32 := [43, 32, 45]
def rLa (g : Int → Int) (e p w : Int) : Int × Int × Int := rC g e bsG (rT g e 32 p w).1 (rT g e 32 p w).2
def rLb (g : Int → Int) (e p w : Int) : Int × Int × Int := rN g e 3 (rLa g e p w).2.1 (rLa g e p w).2.2
def rLc (g : Int → Int) (e p w : Int) : Int × Int := rT g e 46 (rLb g e p w).2.1 (rLb g e p w).2.2
def rLd (g : Int → Int) (e p w : Int) : Int × Int × Int := rN g e 3 (rLc g e p w).1 (rLc g e p w).2
def rLt (g : Int → Int) (e p w : Int) : LT × Int × Int := (((rLa g e p w).1, (rLb g e p w).1, (rLd g e p w).1), (rLd g e p w).2)
def rLs (g : Int → Int) (e : Int) : Nat → Int → Int → List LT × Int × Int
  | 0, p, w => ([], p, w)
  | f + 1, p, w => if w = 0 ∧ p < e ∧ g p = 32 then ((rLt g e p w).1 :: (rLs g e f (rLt g e p w).2.1 (rLt g e p w).2.2).1, (rLs g e f (rLt g e p w).2.1 (rLt g e p w).2.2).2) else ([], p, w)
def rKa (g : Int → Int) (e p w : Int) : Int × Int × Int := rC g e bsL p w
def rKb (g : Int → Int) (e p w : Int) : Int × Int × Int := if (rKa g e p w).1 = 0 ∨ (rKa g e p w).1 = 1 ∨ (rKa g e p w).1 = 2 then rN g e 3 (rKa g e p w).2.1 (rKa g e p w).2.2 else (0, (rKa g e p w).2)
def rKc (g : Int → Int) (e p w : Int) : Int × Int × Int := if (rKa g e p w).1 = 2 then rBN g e 3 (rKb g e p w).2.1 (rKb g e p w).2.2 else (0, (rKb g e p w).2)
def rKd (g : Int → Int) (e p w : Int) : List LT × Int × Int := rLs g e ((e - (rKc g e p w).2.1).toNat + 1) (rKc g e p w).2.1 (rKc g e p w).2.2
def rLn (g : Int → Int) (e p w : Int) : LN × Int × Int := (((rKa g e p w).1, (rKb g e p w).1, (rKc g e p w).1, (rKd g e p w).1), rT g e 59 (rKd g e p w).2.1 (rKd g e p w).2.2)
/-- all lines -/
def rPf (g : Int → Int) (e : Int) : Nat → Int → List LN × Int × Int
  | 0, p => ([], p, 0)
  | f + 1, p => if (rLn g e p 0).2.2 = 0 ∧ (rLn g e p 0).2.1 < e then ((rLn g e p 0).1 :: (rPf g e f (rLn g e p 0).2.1).1, (rPf g e f (rLn g e p 0).2.1).2) else ([(rLn g e p 0).1], (rLn g e p 0).2)
theorem rLa_b {g : Int → Int} {e p w : Int} (h : p ≤ e) : -1 ≤ (rLa g e p w).1 ∧ (rLa g e p w).1 ≤ 4 ∧ p ≤ (rLa g e p w).2.1 ∧ (rLa g e p w).2.1 ≤ e ∧ 0 ≤ (rLa g e p w).2.2 ∧ (rLa g e p w).2.2 ≤ 1 := by
  have h1 := rT_b (g := g) (e := e) (c := 32) (p := p) (w := w) h
  have h2 := rC_b (g := g) (e := e) (p := (rT g e 32 p w).1) (w := (rT g e 32 p w).2) (bs := bsG) h1.2.1
  unfold rLa
  have hl : bsG.length = 3 := rfl
  rw [hl] at h2
  exact ⟨h2.1, by omega, by omega, h2.2.2.2.1, h2.2.2.2.2⟩
theorem rLt_b {g : Int → Int} {e p w : Int} (h : p ≤ e) : p ≤ (rLt g e p w).2.1 ∧ (rLt g e p w).2.1 ≤ e ∧ 0 ≤ (rLt g e p w).2.2 ∧ (rLt g e p w).2.2 ≤ 1 ∧ 0 ≤ (rLt g e p w).1.2.1 ∧ (rLt g e p w).1.2.1 < 1000 ∧ 0 ≤ (rLt g e p w).1.2.2 ∧ (rLt g e p w).1.2.2 < 1000 := by
  have h1 := rLa_b (g := g) (e := e) (p := p) (w := w) h
  have h2 := rN_b (g := g) (e := e) (m := 3) (p := (rLa g e p w).2.1) (w := (rLa g e p w).2.2) (by omega) h1.2.2.2.1
  have h3 := rT_b (g := g) (e := e) (c := 46) (p := (rLb g e p w).2.1) (w := (rLb g e p w).2.2) h2.2.1
  have h4 := rN_b (g := g) (e := e) (m := 3) (p := (rLc g e p w).1) (w := (rLc g e p w).2) (by omega) h3.2.1
  have e2 : ((10 ^ 3 : Nat) : Int) = 1000 := by decide
  rw [e2] at h2 h4
  have q1 : (rLb g e p w).2.1 ≤ (rLc g e p w).1 := h3.1
  have q2 : (rLa g e p w).2.1 ≤ (rLb g e p w).2.1 := h2.1
  have q3 : (rLc g e p w).1 ≤ (rLd g e p w).2.1 := h4.1
  exact ⟨by show p ≤ (rLd g e p w).2.1; omega, h4.2.1, h4.2.2.1, h4.2.2.2.1, h2.2.2.2.2.1, h2.2.2.2.2.2, h4.2.2.2.2.1, h4.2.2.2.2.2⟩
/-- a literal of the puzzle's cells and symbols -/
abbrev lin (Z : PZ) (x : LT) : Prop := x.2.1 < Z.1 * Z.2.1 ∧ x.2.2 < Z.2.2.1
/-- the symbols that literals of a sign name at a cell -/
def ltM (Z : PZ) (b : Bool) (q : List LT) : Nat → Nat := fun c => q.foldl (fun a x => if decide (x.1 = 0) = b ∧ lin Z x ∧ x.2.1 = (c : Int) then a ||| 2 ^ x.2.2.toNat else a) 0
theorem ltM_app {Z : PZ} {b : Bool} {q : List LT} {x : LT} {c : Nat} : ltM Z b (q ++ [x]) c = if decide (x.1 = 0) = b ∧ lin Z x ∧ x.2.1 = (c : Int) then ltM Z b q c ||| 2 ^ x.2.2.toNat else ltM Z b q c := by
  unfold ltM
  rw [List.foldl_append]
  rfl
theorem ltM_go {Z : PZ} {b : Bool} {c s : Nat} : ∀ (q : List LT) (a : Nat), (q.foldl (fun a x => if decide (x.1 = 0) = b ∧ lin Z x ∧ x.2.1 = (c : Int) then a ||| 2 ^ x.2.2.toNat else a) a).testBit s = true ↔ a.testBit s = true ∨ ∃ x ∈ q, decide (x.1 = 0) = b ∧ lin Z x ∧ x.2.1 = (c : Int) ∧ x.2.2.toNat = s
  | [], a => by simp
  | x :: q, a => by
    rw [List.foldl_cons, ltM_go q]
    constructor
    · rintro (h | ⟨y, h1, h2⟩)
      · split at h
        · next hc =>
          rw [Nat.testBit_or, Bool.or_eq_true, Nat.testBit_two_pow, decide_eq_true_eq] at h
          rcases h with h | h
          · exact Or.inl h
          · exact Or.inr ⟨x, List.mem_cons_self .., hc.1, hc.2.1, hc.2.2, h⟩
        · exact Or.inl h
      · exact Or.inr ⟨y, List.mem_cons_of_mem _ h1, h2⟩
    · rintro (h | ⟨y, h1, h2⟩)
      · left
        split
        · rw [Nat.testBit_or, h]
          rfl
        · exact h
      · rcases List.mem_cons.mp h1 with e | e
        · subst e
          left
          rw [if_pos ⟨h2.1, h2.2.1, h2.2.2.1⟩, Nat.testBit_or, Bool.or_eq_true, Nat.testBit_two_pow, decide_eq_true_eq]
          exact Or.inr h2.2.2.2
        · exact Or.inr ⟨y, e, h2⟩
theorem ltM_bit {Z : PZ} {b : Bool} {q : List LT} {c s : Nat} : (ltM Z b q c).testBit s = true ↔ ∃ x ∈ q, decide (x.1 = 0) = b ∧ lin Z x ∧ x.2.1 = (c : Int) ∧ x.2.2.toNat = s := by
  unfold ltM
  rw [ltM_go]
  simp
/-- literals as they were told -/
abbrev lts (q : List LT) : Prop := ∀ x ∈ q, 0 ≤ x.2.1 ∧ x.2.1 < 1000 ∧ 0 ≤ x.2.2 ∧ x.2.2 < 1000
theorem ltM_lt {Z : PZ} (ho : pz_ok Z) {b : Bool} {q : List LT} (hq : lts q) {c : Nat} : ltM Z b q c < 2 ^ Z.2.2.1.toNat := by
  refine Nat.lt_pow_two_of_testBit _ (fun i hi => ?_)
  by_cases h : (ltM Z b q c).testBit i = true
  · obtain ⟨x, h1, _, h3, _, h5⟩ := ltM_bit.mp h
    have := hq x h1
    have h4 := h3.2
    omega
  · simpa using h
theorem ltM_16 {Z : PZ} (ho : pz_ok Z) {b : Bool} {q : List LT} (hq : lts q) {c : Nat} : ltM Z b q c < 16 := by
  have h1 := ltM_lt ho hq (b := b) (c := c)
  have h2 := ho.2.2.2.2.2.1
  have h3 := Nat.pow_le_pow_right (n := 2) (by decide) (show Z.2.2.1.toNat ≤ 4 by omega)
  omega
theorem ltM_hi {Z : PZ} (ho : pz_ok Z) {b : Bool} {q : List LT} {c : Nat} (hc : Z.1 * Z.2.1 ≤ (c : Int)) : ltM Z b q c = 0 := by
  refine Nat.eq_of_testBit_eq (fun i => ?_)
  rw [Nat.zero_testBit]
  by_cases h : (ltM Z b q c).testBit i = true
  · obtain ⟨x, h1, _, h3, h4, _⟩ := ltM_bit.mp h
    have := h3.1
    omega
  · simpa using h
/-- a sign as 0 or 1 -/
def ltn (x : LT) : LT := (if x.1 = 0 then 0 else 1, x.2)
/-- a literal that is none, or one that is told twice -/
def flw (Z : PZ) (q : List LT) : Prop := (∃ x ∈ q, ¬ lin Z x) ∨ ¬ (q.map ltn).Nodup
theorem flw_app {Z : PZ} {q : List LT} {x : LT} : flw Z (q ++ [x]) ↔ flw Z q ∨ ¬ lin Z x ∨ ltn x ∈ q.map ltn := by
  unfold flw
  rw [List.map_append, List.map_singleton, List.nodup_append]
  constructor
  · rintro (⟨y, h1, h2⟩ | h)
    · rcases List.mem_append.mp h1 with e | e
      · exact Or.inl (Or.inl ⟨y, e, h2⟩)
      · rw [List.mem_singleton] at e
        rw [e] at h2
        exact Or.inr (Or.inl h2)
    · by_cases h1 : (q.map ltn).Nodup
      · by_cases h2 : ltn x ∈ q.map ltn
        · exact Or.inr (Or.inr h2)
        · exfalso
          refine h ⟨h1, by simp, fun a ha b hb e => ?_⟩
          rw [List.mem_singleton] at hb
          rw [e, hb] at ha
          exact h2 ha
      · exact Or.inl (Or.inr h1)
  · rintro ((⟨y, h1, h2⟩ | h) | h | h)
    · exact Or.inl ⟨y, List.mem_append_left _ h1, h2⟩
    · exact Or.inr (fun h2 => h h2.1)
    · exact Or.inl ⟨x, List.mem_append_right _ (List.mem_singleton.mpr rfl), h⟩
    · exact Or.inr (fun h2 => h2.2.2 _ h _ (List.mem_singleton.mpr rfl) rfl)
theorem ltn_in {Z : PZ} {q : List LT} (hq : lts q) {x : LT} (hx : 0 ≤ x.2.1 ∧ 0 ≤ x.2.2) (hl : lin Z x) : ltn x ∈ q.map ltn ↔ (ltM Z (decide (x.1 = 0)) q x.2.1.toNat).testBit x.2.2.toNat = true := by
  rw [ltM_bit, List.mem_map]
  constructor
  · rintro ⟨y, h1, h2⟩
    unfold ltn at h2
    have e2 : y.2 = x.2 := (Prod.mk.inj h2).2
    have e1 := (Prod.mk.inj h2).1
    refine ⟨y, h1, ?_, by unfold lin; rw [e2]; exact hl, by rw [e2]; omega, by rw [e2]⟩
    by_cases hy : y.1 = 0
    · rw [if_pos hy] at e1
      by_cases hx0 : x.1 = 0
      · simp [hy, hx0]
      · rw [if_neg hx0] at e1
        omega
    · rw [if_neg hy] at e1
      by_cases hx0 : x.1 = 0
      · rw [if_pos hx0] at e1
        omega
      · simp [hy, hx0]
  · rintro ⟨y, h1, h2, h3, h4, h5⟩
    have hy := hq y h1
    refine ⟨y, h1, ?_⟩
    unfold ltn
    have e2 : y.2 = x.2 := Prod.ext (by omega) (by omega)
    rw [e2]
    have e1 : (y.1 = 0) ↔ (x.1 = 0) := by
      have := decide_eq_decide.mp h2
      exact this
    by_cases hx0 : x.1 = 0
    · rw [if_pos hx0, if_pos (e1.mpr hx0)]
    · rw [if_neg hx0, if_neg (fun h => hx0 (e1.mp h))]
/-- line i of the class, of which literals q were read -/
def cln (Z : PZ) (M : fx_M) (i k f g : Int) (q : List LT) : Prop := M 36 i = f ∧ M 37 i = g ∧ (flw Z q → M 35 i = 5) ∧ (¬ flw Z q → M 35 i = k) ∧ sta (M 38 i) (ltM Z true q) ∧ sta (M 39 i) (ltM Z false q)
theorem sta_or {Z : PZ} (ho : pz_ok Z) {v : Int} {b : Bool} {q : List LT} (h : sta v (ltM Z b q)) {x : LT} (hx : 0 ≤ x.2.1 ∧ 0 ≤ x.2.2) (hl : lin Z x) (hb : decide (x.1 = 0) = b) : sta (fx_lor v (fx_lshl 1 (4 * x.2.1 + x.2.2))) (ltM Z b (q ++ [x])) := by
  have h9 := pz_n ho
  have h4 := ho.2.2.2.2.2.1
  obtain ⟨l1, l2⟩ := hl
  refine ⟨in64_lor _ _, fun i hi => ?_⟩
  rw [lbit_lor, lbit_1s ⟨by omega, by omega⟩ i hi, h.2 i hi, ltM_app]
  by_cases hc : x.2.1 = ((i / 4 : Nat) : Int)
  · rw [if_pos ⟨hb, ⟨l1, l2⟩, hc⟩, Nat.testBit_or, Nat.testBit_two_pow]
    have hi40 : i < 40 := by omega
    rw [show decide (i < 40) = true from decide_eq_true hi40, Bool.true_and, Bool.true_and]
    congr 1
    apply decide_eq_decide.mpr
    omega
  · rw [if_neg (fun h => hc h.2.2), show decide (i = (4 * x.2.1 + x.2.2).toNat) = false from decide_eq_false (by omega), Bool.or_false]
theorem ltM_oth {Z : PZ} {b : Bool} {q : List LT} {x : LT} (h : decide (x.1 = 0) ≠ b) : ltM Z b (q ++ [x]) = ltM Z b q := by
  funext c
  rw [ltM_app, if_neg (fun e => h e.1)]
theorem ltM_out {Z : PZ} {b : Bool} {q : List LT} {x : LT} (h : ¬ lin Z x) : ltM Z b (q ++ [x]) = ltM Z b q := by
  funext c
  rw [ltM_app, if_neg (fun e => h e.2.1)]
theorem sta_test {Z : PZ} (ho : pz_ok Z) {v : Int} {S : Nat → Nat} (h : sta v S) {c s : Int} (hc : 0 ≤ c ∧ c < 9) (hs : 0 ≤ s ∧ s < 4) : fx_cmp (fx_land v (fx_lshl 1 (4 * c + s))) 0 = 0 ↔ ¬ (S c.toNat).testBit s.toNat = true := by
  rw [cmp0 (in64_land _ _)]
  have hb : lbit v (4 * c + s).toNat = (S c.toNat).testBit s.toNat := by
    rw [h.2 _ (by omega), show decide ((4 * c + s).toNat < 40) = true from decide_eq_true (by omega), Bool.true_and, show (4 * c + s).toNat / 4 = c.toNat by omega, show (4 * c + s).toNat % 4 = s.toNat by omega]
  constructor
  · intro h0 ht
    have h1 : lbit (fx_land v (fx_lshl 1 (4 * c + s))) (4 * c + s).toNat = true := by
      rw [lbit_land, lbit_1s ⟨by omega, by omega⟩ _ (by omega), hb, ht]
      simp
    rw [h0, lbit_0] at h1
    cases h1
  · intro h0
    by_cases hne : fx_land v (fx_lshl 1 (4 * c + s)) = 0
    · exact hne
    · exfalso
      obtain ⟨i, hi, h1⟩ := (lbit_ne0 (in64_land _ _)).mp hne
      rw [lbit_land, lbit_1s ⟨by omega, by omega⟩ i hi, Bool.and_eq_true, decide_eq_true_eq] at h1
      rw [h1.2, hb] at h1
      exact h0 h1.1
section CLN
variable {L : Nat} {xs : Nat → Int32} {d : Nat} {Q : Option fx_V → fx_M → Prop} {Z : PZ}
/-- what reading a literal may change -/
def lqf (i : Int) (M N : fx_M) : Prop := ∀ b j, ¬ (b = 7 ∧ (j = 1 ∨ j = 3)) → ¬ ((b = 35 ∨ b = 38 ∨ b = 39) ∧ j = i) → N b j = M b j
theorem cln_3 {M N : fx_M} {i k f g : Int} {q : List LT} {x : LT} (hl : cln Z M i k f g q) (h36 : N 36 i = M 36 i) (h37 : N 37 i = M 37 i) (h35 : flw Z (q ++ [x]) → N 35 i = 5) (h35' : ¬ flw Z (q ++ [x]) → N 35 i = M 35 i) (h38 : sta (N 38 i) (ltM Z true (q ++ [x]))) (h39 : sta (N 39 i) (ltM Z false (q ++ [x]))) : cln Z N i k f g (q ++ [x]) :=
  ⟨by rw [h36]; exact hl.1, by rw [h37]; exact hl.2.1, h35, fun h => by rw [h35' h]; exact hl.2.2.2.1 (fun h2 => h (flw_app.mpr (Or.inl h2))), h38, h39⟩
theorem sp_readLit {M : fx_M} {n : Nat} (hS : sc_at M 7 2 n) (hz : cz M 11 Z) (ho : pz_ok Z) {i : Int} (hi : 0 ≤ i ∧ i < 1600) {k f g : Int} {q : List LT} (hq : lts q) (hl : cln Z M i k f g q) (K : ∀ M', sc_at M' 7 2 n → M' 7 1 = (rLt (M 2) (M 7 2) (M 7 1) (M 7 3)).2.1 → M' 7 3 = (rLt (M 2) (M 7 2) (M 7 1) (M 7 3)).2.2 → cln Z M' i k f g (q ++ [(rLt (M 2) (M 7 2) (M 7 1) (M 7 3)).1]) → lqf i M M' → Q none M') : wc (kcs L xs) (d + 5) 60 [jR 34, jR 7, jI i] M Q := by
  have h9 := pz_n ho
  have h4 := ho.2.2.2.2.2.1
  have h1s := ho.2.2.2.2.1
  have hp := sc_p hS
  have Hs := fx_scn7
  have b1 := rT_b (g := M 2) (e := M 7 2) (c := 32) (p := M 7 1) (w := M 7 3) hp.1
  have b2 := rLa_b (g := M 2) (e := M 7 2) (p := M 7 1) (w := M 7 3) hp.1
  have b3 := rN_b (g := M 2) (e := M 7 2) (m := 3) (p := (rLa (M 2) (M 7 2) (M 7 1) (M 7 3)).2.1) (w := (rLa (M 2) (M 7 2) (M 7 1) (M 7 3)).2.2) (by omega) b2.2.2.2.1
  have b4 := rT_b (g := M 2) (e := M 7 2) (c := 46) (p := (rLb (M 2) (M 7 2) (M 7 1) (M 7 3)).2.1) (w := (rLb (M 2) (M 7 2) (M 7 1) (M 7 3)).2.2) b3.2.1
  have b5 := rLt_b (g := M 2) (e := M 7 2) (p := M 7 1) (w := M 7 3) hp.1
  have q2 : (rLa (M 2) (M 7 2) (M 7 1) (M 7 3)).2.1 ≤ (rLb (M 2) (M 7 2) (M 7 1) (M 7 3)).2.1 := b3.1
  have q3 : (rLb (M 2) (M 7 2) (M 7 1) (M 7 3)).2.1 ≤ (rLc (M 2) (M 7 2) (M 7 1) (M 7 3)).1 := b4.1
  refine s60 Hs (sp_take (d := d + 3) Hs hS ⟨by omega, by omega⟩ (s60_6 Hs ?_))
  have S1 : sc_at (rd M 7 (rT (M 2) (M 7 2) 32 (M 7 1) (M 7 3)).1 (rT (M 2) (M 7 2) 32 (M 7 1) (M 7 3)).2) 7 2 n := sc_at_rd Hs hS ⟨by omega, by omega⟩ ⟨b1.2.2.1, b1.2.2.2⟩
  have E1 := rd_g (p := (rT (M 2) (M 7 2) 32 (M 7 1) (M 7 3)).1) (v := (rT (M 2) (M 7 2) 32 (M 7 1) (M 7 3)).2) Hs hS
  refine sp_chooseR (d := d) Hs lt_1000027 S1 (s60_12 Hs ?_)
  rw [E1.1, E1.2, rd_1, rd_3, rd_rd]
  show wc (kcs L xs) (d + 4) 35 [jR 7, jI 3] (rd M 7 (rLa (M 2) (M 7 2) (M 7 1) (M 7 3)).2.1 (rLa (M 2) (M 7 2) (M 7 1) (M 7 3)).2.2) (fun v M1 => wp (kcs L xs) (d + 5) 60 18 [some (jR 34), some (jR 7), some (jI i), some (jI (rLa (M 2) (M 7 2) (M 7 1) (M 7 3)).1), none, none, none, none] (v.toList ++ []) M1 Q)
  have S2 : sc_at (rd M 7 (rLa (M 2) (M 7 2) (M 7 1) (M 7 3)).2.1 (rLa (M 2) (M 7 2) (M 7 1) (M 7 3)).2.2) 7 2 n := sc_at_rd Hs hS ⟨by omega, by omega⟩ b2.2.2.2.2
  have E2 := rd_g (p := (rLa (M 2) (M 7 2) (M 7 1) (M 7 3)).2.1) (v := (rLa (M 2) (M 7 2) (M 7 1) (M 7 3)).2.2) Hs hS
  refine sp_num (m := 3) (d := d + 3) Hs S2 ⟨by omega, by omega⟩ (s60_18 Hs ?_)
  rw [E2.1, E2.2, rd_1, rd_3, rd_rd]
  show wc (kcs L xs) (d + 4) 34 [jR 7, jI 46] (rd M 7 (rLb (M 2) (M 7 2) (M 7 1) (M 7 3)).2.1 (rLb (M 2) (M 7 2) (M 7 1) (M 7 3)).2.2) (fun v M1 => wp (kcs L xs) (d + 5) 60 26 [some (jR 34), some (jR 7), some (jI i), some (jI (rLa (M 2) (M 7 2) (M 7 1) (M 7 3)).1), some (jI (rLb (M 2) (M 7 2) (M 7 1) (M 7 3)).1), none, none, none] (v.toList ++ []) M1 Q)
  have S3 : sc_at (rd M 7 (rLb (M 2) (M 7 2) (M 7 1) (M 7 3)).2.1 (rLb (M 2) (M 7 2) (M 7 1) (M 7 3)).2.2) 7 2 n := sc_at_rd Hs hS ⟨by omega, b3.2.1⟩ ⟨b3.2.2.1, b3.2.2.2.1⟩
  have E3 := rd_g (p := (rLb (M 2) (M 7 2) (M 7 1) (M 7 3)).2.1) (v := (rLb (M 2) (M 7 2) (M 7 1) (M 7 3)).2.2) Hs hS
  refine sp_take (d := d + 3) Hs S3 ⟨by omega, by omega⟩ (s60_26 Hs ?_)
  rw [E3.1, E3.2, rd_1, rd_3, rd_rd]
  show wc (kcs L xs) (d + 4) 35 [jR 7, jI 3] (rd M 7 (rLc (M 2) (M 7 2) (M 7 1) (M 7 3)).1 (rLc (M 2) (M 7 2) (M 7 1) (M 7 3)).2) (fun v M1 => wp (kcs L xs) (d + 5) 60 31 [some (jR 34), none, some (jI i), some (jI (rLa (M 2) (M 7 2) (M 7 1) (M 7 3)).1), some (jI (rLb (M 2) (M 7 2) (M 7 1) (M 7 3)).1), none, none, none] (v.toList ++ []) M1 Q)
  have S4 : sc_at (rd M 7 (rLc (M 2) (M 7 2) (M 7 1) (M 7 3)).1 (rLc (M 2) (M 7 2) (M 7 1) (M 7 3)).2) 7 2 n := sc_at_rd Hs hS ⟨by omega, b4.2.1⟩ ⟨b4.2.2.1, b4.2.2.2⟩
  have E4 := rd_g (p := (rLc (M 2) (M 7 2) (M 7 1) (M 7 3)).1) (v := (rLc (M 2) (M 7 2) (M 7 1) (M 7 3)).2) Hs hS
  refine sp_num (m := 3) (d := d + 3) Hs S4 ⟨by omega, by omega⟩ (s60_31 Hs ?_)
  rw [E4.1, E4.2, rd_1, rd_3, rd_rd]
  have eD : rN (M 2) (M 7 2) 3 (rLc (M 2) (M 7 2) (M 7 1) (M 7 3)).1 (rLc (M 2) (M 7 2) (M 7 1) (M 7 3)).2 = rLd (M 2) (M 7 2) (M 7 1) (M 7 3) := rfl
  rw [eD]
  have ex : (rLt (M 2) (M 7 2) (M 7 1) (M 7 3)) = (((rLa (M 2) (M 7 2) (M 7 1) (M 7 3)).1, (rLb (M 2) (M 7 2) (M 7 1) (M 7 3)).1, (rLd (M 2) (M 7 2) (M 7 1) (M 7 3)).1), (rLd (M 2) (M 7 2) (M 7 1) (M 7 3)).2) := rfl
  rw [ex] at K b5
  have b2' := b2.1
  have b2'' := b2.2.1
  generalize (rLa (M 2) (M 7 2) (M 7 1) (M 7 3)).1 = sg at K b5 b2' b2'' ⊢
  generalize (rLb (M 2) (M 7 2) (M 7 1) (M 7 3)).1 = c at K b5 ⊢
  generalize rLd (M 2) (M 7 2) (M 7 1) (M 7 3) = D at K b5 ⊢
  obtain ⟨y, pp, ww⟩ := D
  simp only at K b5 ⊢
  obtain ⟨k1, k2, k3, k4, k5, k6, k7, k8⟩ := b5
  have S5 : sc_at (rd M 7 pp ww) 7 2 n := sc_at_rd Hs hS ⟨by omega, k2⟩ ⟨k3, k4⟩
  have rn : ∀ (b : Nat) (j : Int), b ≠ 7 → (rd M 7 pp ww) b j = M b j := fun b j hb => rd_ne (fun e => hb e.1)
  rw [rn 11 _ (by decide), rn 11 _ (by decide), rn 38 _ (by decide), rn 39 _ (by decide), hz.2.2.1, hz.2.2.2.1]
  have scu : ∀ (b : Nat) (N : fx_M) (v : Int), (b = 35 ∨ b = 38 ∨ b = 39) → sc_at N 7 2 n → sc_at (fx_up N b i v) 7 2 n := fun b N v hb hN => sc_at_up hN (by omega) (by omega)
  have frm : ∀ (N : fx_M), (∀ b j, ¬ ((b = 35 ∨ b = 38 ∨ b = 39) ∧ j = i) → N b j = (rd M 7 pp ww) b j) → lqf i M N := fun N h b j h1 h2 => by
    rw [h b j h2]
    exact rd_ne h1
  have out : ¬ lin Z (sg, c, y) → Q none (fx_up (rd M 7 pp ww) 35 i 5) := fun hn => by
    refine K _ (scu 35 _ 5 (Or.inl rfl) S5) ?_ ?_ (cln_3 hl ?_ ?_ (fun _ => fx_up_self _ _ _ _) (fun h => absurd (flw_app.mpr (Or.inr (Or.inl hn))) h) ?_ ?_) (frm _ (fun b j h => fx_up_ne (fun e => h ⟨Or.inl e.1, e.2⟩)))
    · rw [fx_up_na (by decide), rd_1]
    · rw [fx_up_na (by decide), rd_3]
    · rw [fx_up_na (by decide), rn _ _ (by decide)]
    · rw [fx_up_na (by decide), rn _ _ (by decide)]
    · rw [fx_up_na (by decide), rn _ _ (by decide), ltM_out hn]
      exact hl.2.2.2.2.1
    · rw [fx_up_na (by decide), rn _ _ (by decide), ltM_out hn]
      exact hl.2.2.2.2.2
  refine ⟨⟨⟨by omega, by omega⟩, ⟨by omega, by omega⟩⟩, fun h => ⟨hi, out (fun e => by have h' : c < Z.1 * Z.2.1 := e.1; omega)⟩, fun hc => ⟨⟨⟨by omega, by omega⟩, ⟨by omega, by omega⟩⟩, fun hy => ⟨⟨by omega, by omega⟩, fun _ => hi, fun _ => hi, ?_⟩, fun h => ⟨hi, out (fun e => by have h' : y < Z.2.2.1 := e.2; omega)⟩⟩⟩
  have hlin : lin Z (sg, c, y) := ⟨hc, hy⟩
  have hns := ltn_in hq (x := (sg, c, y)) ⟨k5, k7⟩ hlin
  by_cases hsg : sg = 0
  · subst hsg
    rw [if_pos rfl]
    have ht := sta_test ho hl.2.2.2.2.1 (c := c) (s := y) ⟨by omega, by omega⟩ ⟨by omega, by omega⟩
    have hor := sta_or ho hl.2.2.2.2.1 (x := (0, c, y)) ⟨k5, k7⟩ hlin rfl
    have hot : ltM Z false (q ++ [(0, c, y)]) = ltM Z false q := ltM_oth (by simp)
    refine ⟨in64_land _ _, fun h0 => ⟨⟨by omega, by omega⟩, fun h => absurd rfl h, fun _ => ⟨hi, hi, ?_⟩⟩, fun h0 => ⟨hi, ⟨by omega, by omega⟩, fun h => absurd rfl h, fun _ => ⟨hi, hi, ?_⟩⟩⟩
    · refine K _ (scu 38 _ _ (Or.inr (Or.inl rfl)) S5) ?_ ?_ (cln_3 hl ?_ ?_ (fun h => ?_) (fun h => ?_) ?_ ?_) (frm _ (fun b j h => fx_up_ne (fun e => h ⟨Or.inr (Or.inl e.1), e.2⟩)))
      · rw [fx_up_na (by decide), rd_1]
      · rw [fx_up_na (by decide), rd_3]
      · rw [fx_up_na (by decide), rn _ _ (by decide)]
      · rw [fx_up_na (by decide), rn _ _ (by decide)]
      · rw [fx_up_na (by decide), rn _ _ (by decide)]
        rcases flw_app.mp h with h | h | h
        · exact hl.2.2.1 h
        · exact absurd hlin h
        · exact absurd (hns.mp h) (ht.mp h0)
      · rw [fx_up_na (by decide), rn _ _ (by decide)]
      · rw [fx_up_self]
        exact hor
      · rw [fx_up_na (by decide), rn _ _ (by decide), hot]
        exact hl.2.2.2.2.2
    · refine K _ (scu 38 _ _ (Or.inr (Or.inl rfl)) (scu 35 _ 5 (Or.inl rfl) S5)) ?_ ?_ (cln_3 hl ?_ ?_ (fun h => ?_) (fun h => ?_) ?_ ?_) (frm _ (fun b j h => by rw [fx_up_ne (fun e => h ⟨Or.inr (Or.inl e.1), e.2⟩), fx_up_ne (fun e => h ⟨Or.inl e.1, e.2⟩)]))
      · rw [fx_up_na (by decide), fx_up_na (by decide), rd_1]
      · rw [fx_up_na (by decide), fx_up_na (by decide), rd_3]
      · rw [fx_up_na (by decide), fx_up_na (by decide), rn _ _ (by decide)]
      · rw [fx_up_na (by decide), fx_up_na (by decide), rn _ _ (by decide)]
      · rw [fx_up_na (by decide), fx_up_self]
      · refine absurd (flw_app.mpr (Or.inr (Or.inr (hns.mpr ?_)))) h
        by_cases hb : (ltM Z (decide ((0 : Int) = 0)) q c.toNat).testBit y.toNat = true
        · exact hb
        · exact absurd (ht.mpr hb) h0
      · rw [fx_up_self]
        exact hor
      · rw [fx_up_na (by decide), fx_up_na (by decide), rn _ _ (by decide), hot]
        exact hl.2.2.2.2.2
  · rw [if_neg hsg]
    have hdf : decide (sg = 0) = false := decide_eq_false hsg
    have ht := sta_test ho hl.2.2.2.2.2 (c := c) (s := y) ⟨by omega, by omega⟩ ⟨by omega, by omega⟩
    have hor := sta_or ho hl.2.2.2.2.2 (x := (sg, c, y)) ⟨k5, k7⟩ hlin hdf
    have hot : ltM Z true (q ++ [(sg, c, y)]) = ltM Z true q := ltM_oth (by rw [hdf]; decide)
    refine ⟨in64_land _ _, fun h0 => ⟨⟨by omega, by omega⟩, fun _ => ⟨hi, hi, ?_⟩, fun h => absurd h hsg⟩, fun h0 => ⟨hi, ⟨by omega, by omega⟩, fun _ => ⟨hi, hi, ?_⟩, fun h => absurd h hsg⟩⟩
    · refine K _ (scu 39 _ _ (Or.inr (Or.inr rfl)) S5) ?_ ?_ (cln_3 hl ?_ ?_ (fun h => ?_) (fun h => ?_) ?_ ?_) (frm _ (fun b j h => fx_up_ne (fun e => h ⟨Or.inr (Or.inr e.1), e.2⟩)))
      · rw [fx_up_na (by decide), rd_1]
      · rw [fx_up_na (by decide), rd_3]
      · rw [fx_up_na (by decide), rn _ _ (by decide)]
      · rw [fx_up_na (by decide), rn _ _ (by decide)]
      · rw [fx_up_na (by decide), rn _ _ (by decide)]
        rcases flw_app.mp h with h | h | h
        · exact hl.2.2.1 h
        · exact absurd hlin h
        · rw [hns, hdf] at h
          exact absurd h (ht.mp h0)
      · rw [fx_up_na (by decide), rn _ _ (by decide)]
      · rw [fx_up_na (by decide), rn _ _ (by decide), hot]
        exact hl.2.2.2.2.1
      · rw [fx_up_self]
        exact hor
    · refine K _ (scu 39 _ _ (Or.inr (Or.inr rfl)) (scu 35 _ 5 (Or.inl rfl) S5)) ?_ ?_ (cln_3 hl ?_ ?_ (fun h => ?_) (fun h => ?_) ?_ ?_) (frm _ (fun b j h => by rw [fx_up_ne (fun e => h ⟨Or.inr (Or.inr e.1), e.2⟩), fx_up_ne (fun e => h ⟨Or.inl e.1, e.2⟩)]))
      · rw [fx_up_na (by decide), fx_up_na (by decide), rd_1]
      · rw [fx_up_na (by decide), fx_up_na (by decide), rd_3]
      · rw [fx_up_na (by decide), fx_up_na (by decide), rn _ _ (by decide)]
      · rw [fx_up_na (by decide), fx_up_na (by decide), rn _ _ (by decide)]
      · rw [fx_up_na (by decide), fx_up_self]
      · refine absurd (flw_app.mpr (Or.inr (Or.inr (hns.mpr ?_)))) h
        rw [hdf]
        by_cases hb : (ltM Z false q c.toNat).testBit y.toNat = true
        · exact hb
        · exact absurd (ht.mpr hb) h0
      · rw [fx_up_na (by decide), fx_up_na (by decide), rn _ _ (by decide), hot]
        exact hl.2.2.2.2.1
      · rw [fx_up_self]
        exact hor
end CLN
