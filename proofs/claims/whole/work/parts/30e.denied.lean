/-! The standing in which no literal of a line is so; units, as functions. -/
def nb4 (p : Nat → Bool) : Nat := (if p 0 then 1 else 0) + (if p 1 then 2 else 0) + (if p 2 then 4 else 0) + (if p 3 then 8 else 0)
theorem nb4_all : ∀ (b0 b1 b2 b3 : Bool) (k : Fin 4), ((if b0 then 1 else 0) + (if b1 then 2 else 0) + (if b2 then 4 else 0) + (if b3 then 8 else 0) : Nat).testBit (k : Nat) = (if (k : Nat) = 0 then b0 else if (k : Nat) = 1 then b1 else if (k : Nat) = 2 then b2 else b3) := by decide +kernel
theorem nb4_bit {p : Nat → Bool} {y : Nat} (hy : y < 4) : (nb4 p).testBit y = p y := by
  have h := nb4_all (p 0) (p 1) (p 2) (p 3) ⟨y, hy⟩
  unfold nb4
  simp only at h
  rw [h]
  have hc : y = 0 ∨ y = 1 ∨ y = 2 ∨ y = 3 := by omega
  rcases hc with e | e | e | e <;> subst e <;> rfl
theorem nb4_lt {p : Nat → Bool} : nb4 p < 16 := by
  unfold nb4
  repeat' split
  all_goals omega
/-- two sets of symbols -/
theorem ext4 {a b : Nat} (ha : a < 16) (hb : b < 16) (h : ∀ y, y < 4 → a.testBit y = b.testBit y) : a = b := Nat.eq_of_testBit_eq (fun i => by
  by_cases hi : i < 4
  · exact h i hi
  · rw [Nat.testBit_lt_two_pow (Nat.lt_of_lt_of_le ha (Nat.pow_le_pow_right (n := 2) (i := 4) (by decide) (by omega))), Nat.testBit_lt_two_pow (Nat.lt_of_lt_of_le hb (Nat.pow_le_pow_right (n := 2) (i := 4) (by decide) (by omega)))])
def dnS (Z : PZ) (q : List LT) : Nat → Nat := fun c => if (c : Int) < Z.1 * Z.2.1 then nb4 (fun y => decide ((y : Int) < Z.2.2.1) && !(ltM Z true q c).testBit y && (decide (ltM Z false q c = 0) || decide (ltM Z false q c = 2 ^ y))) else 1
def dn0 (Z : PZ) (q : List LT) : Nat → Nat := fun c => if (c : Int) < Z.1 * Z.2.1 then nb4 (fun y => decide ((y : Int) < Z.2.2.1) && !(ltM Z true q c).testBit y) else 1
theorem dnS_bit {Z : PZ} {q : List LT} {c y : Nat} (hc : (c : Int) < Z.1 * Z.2.1) (hy : y < 4) : (dnS Z q c).testBit y = true ↔ (y : Int) < Z.2.2.1 ∧ ¬ (ltM Z true q c).testBit y = true ∧ (ltM Z false q c = 0 ∨ ltM Z false q c = 2 ^ y) := by
  unfold dnS
  rw [if_pos hc, nb4_bit hy]
  simp only [Bool.and_eq_true, decide_eq_true_eq, Bool.not_eq_true', Bool.or_eq_true, Bool.not_eq_true]
  constructor
  · rintro ⟨⟨h1, h2⟩, h3⟩
    exact ⟨h1, h2, h3⟩
  · rintro ⟨h1, h2, h3⟩
    exact ⟨⟨h1, h2⟩, h3⟩
theorem dnS_ok {Z : PZ} (ho : pz_ok Z) {q : List LT} : s_ok Z (dnS Z q) := fun c hc => by
  refine ⟨fun h => ?_, fun h => ?_⟩
  · refine Nat.lt_pow_two_of_testBit _ (fun i hi => ?_)
    by_cases h4 : i < 4
    · by_cases hb : (dnS Z q c).testBit i = true
      · have := ((dnS_bit h h4).mp hb).1
        omega
      · simpa using hb
    · unfold dnS
      rw [if_pos h]
      exact Nat.testBit_lt_two_pow (Nat.lt_of_lt_of_le nb4_lt (Nat.pow_le_pow_right (n := 2) (i := 4) (by decide) (by omega)))
  · unfold dnS
    rw [if_neg (by omega)]
/-- minus literals at a cell: none, one alone, or more -/
theorem ltM_0 {Z : PZ} {b : Bool} {q : List LT} {c : Nat} : ltM Z b q c = 0 ↔ ∀ x ∈ q, decide (x.1 = 0) = b → lin Z x → x.2.1 ≠ (c : Int) := by
  constructor
  · intro h x hx h1 h2 h3
    have := (ltM_bit (Z := Z) (b := b) (q := q) (c := c) (s := x.2.2.toNat)).mpr ⟨x, hx, h1, h2, h3, rfl⟩
    rw [h, Nat.zero_testBit] at this
    cases this
  · intro h
    refine Nat.eq_of_testBit_eq (fun i => ?_)
    rw [Nat.zero_testBit]
    by_cases hb : (ltM Z b q c).testBit i = true
    · obtain ⟨x, h1, h2, h3, h4, _⟩ := ltM_bit.mp hb
      exact absurd h4 (h x h1 h2 h3)
    · simpa using hb
section CDN
variable {L : Nat} {xs : Nat → Int32} {d : Nat} {Q : Option fx_V → fx_M → Prop} {Z : PZ}
theorem lbit_nibs {m c : Nat} (hm : m < 16) (hc : c < 10) (i : Nat) (hi : i < 64) : lbit (fx_lshl (m : Int) (4 * (c : Int))) i = (decide (i / 4 = c) && m.testBit (i % 4)) := by
  rw [lbit_lshl _ ⟨by omega, by omega⟩, lbit_nat (by omega), show (4 * (c : Int)).toNat = 4 * c by omega, show decide (i < 64) = true from decide_eq_true hi, Bool.true_and]
  by_cases h1 : i / 4 = c
  · rw [show decide (i / 4 = c) = true from decide_eq_true h1, show decide (4 * c ≤ i) = true from decide_eq_true (by omega), show i - 4 * c = i % 4 by omega]
  · rw [show decide (i / 4 = c) = false from decide_eq_false h1, Bool.false_and]
    by_cases h2 : 4 * c ≤ i
    · rw [Nat.testBit_lt_two_pow (Nat.lt_of_lt_of_le hm (Nat.pow_le_pow_right (n := 2) (i := 4) (by decide) (by omega))), Bool.and_false]
    · rw [show decide (4 * c ≤ i) = false from decide_eq_false h2, Bool.false_and]
theorem sta_nib {v w : Int} {S : Nat → Nat} (h : sta v S) {c m : Nat} (hc : c < 10) (hw : ∀ i : Nat, i < 64 → lbit w i = (decide (i / 4 = c) && m.testBit (i % 4))) : sta (fx_land v (fx_lor (fx_lxor (fx_lshl 15 (4 * (c : Int))) (-1)) w)) (fun k => if k = c then S k &&& m else S k) := ⟨in64_land _ _, fun i hi => by
  rw [lbit_land, lbit_lor, lbit_not, lbit_15 ⟨by omega, by omega⟩ i hi, hw i hi, h.2 i hi, show decide (i < 64) = true from decide_eq_true hi, Bool.true_and]
  dsimp only
  by_cases h1 : i / 4 = c
  · rw [if_pos h1, show decide (i / 4 = c) = true from decide_eq_true h1, show decide ((4 * (c : Int)).toNat ≤ i ∧ i < (4 * (c : Int)).toNat + 4) = true from decide_eq_true (by omega), Nat.testBit_and, Bool.not_true, Bool.false_or, Bool.true_and, Bool.and_assoc]
  · rw [if_neg h1, show decide (i / 4 = c) = false from decide_eq_false h1, show decide ((4 * (c : Int)).toNat ≤ i ∧ i < (4 * (c : Int)).toNat + 4) = false from decide_eq_false (by omega), Bool.not_false, Bool.true_or, Bool.and_true]⟩
theorem pop4_1y : ∀ m : Fin 16, pop4 (m : Nat) = 1 → ∀ y : Fin 4, (m : Nat).testBit (y : Nat) = decide ((m : Nat) = 2 ^ (y : Nat)) := by decide +kernel
theorem pop4_n1 : ∀ m : Fin 16, (m : Nat) ≠ 0 → pop4 (m : Nat) ≠ 1 → ∀ y : Fin 4, (m : Nat) ≠ 2 ^ (y : Nat) := by decide +kernel
theorem dn_step (ho : pz_ok Z) {q : List LT} (hq : lts q) {c : Nat} (hc : (c : Int) < Z.1 * Z.2.1) : (ltM Z false q c = 0 → dnS Z q c = dn0 Z q c) ∧ (pop4 (ltM Z false q c) = 1 → dnS Z q c = dn0 Z q c &&& ltM Z false q c) ∧ (ltM Z false q c ≠ 0 → pop4 (ltM Z false q c) ≠ 1 → dnS Z q c = dn0 Z q c &&& 0) := by
  have h16 := ltM_16 ho hq (b := false) (c := c)
  have e0 : dn0 Z q c = nb4 (fun y => decide ((y : Int) < Z.2.2.1) && !(ltM Z true q c).testBit y) := by
    unfold dn0
    rw [if_pos hc]
  have eS : dnS Z q c = nb4 (fun y => decide ((y : Int) < Z.2.2.1) && !(ltM Z true q c).testBit y && (decide (ltM Z false q c = 0) || decide (ltM Z false q c = 2 ^ y))) := by
    unfold dnS
    rw [if_pos hc]
  have l0 : dn0 Z q c < 16 := by rw [e0]; exact nb4_lt
  have lS : dnS Z q c < 16 := by rw [eS]; exact nb4_lt
  refine ⟨fun h => ext4 lS l0 (fun y hy => ?_), fun h => ext4 lS (Nat.lt_of_le_of_lt Nat.and_le_left l0) (fun y hy => ?_), fun h1 h2 => ext4 lS (by rw [Nat.and_zero]; omega) (fun y hy => ?_)⟩
  · rw [eS, e0, nb4_bit hy, nb4_bit hy, h]
    simp
  · have hy1 := pop4_1y ⟨ltM Z false q c, h16⟩ h ⟨y, hy⟩
    simp only at hy1
    have hne : ltM Z false q c ≠ 0 := fun e => by
      rw [e] at h
      revert h
      decide
    rw [Nat.testBit_and, eS, e0, nb4_bit hy, nb4_bit hy, hy1, show decide (ltM Z false q c = 0) = false from decide_eq_false hne, Bool.false_or]
  · have hy1 := pop4_n1 ⟨ltM Z false q c, h16⟩ h1 h2 ⟨y, hy⟩
    simp only at hy1
    rw [Nat.and_zero, Nat.zero_testBit, eS, nb4_bit hy, show decide (ltM Z false q c = 0) = false from decide_eq_false h1, show decide (ltM Z false q c = 2 ^ y) = false from decide_eq_false hy1]
    simp
theorem sta_dn0 (ho : pz_ok Z) {fr pl : Int} {q : List LT} (hf : sta fr (s_free Z)) (hp : sta pl (ltM Z true q)) : sta (fx_land fr (fx_lxor pl (-1))) (dn0 Z q) := ⟨in64_land _ _, fun i hi => by
  rw [lbit_land, lbit_not, hf.2 i hi, hp.2 i hi, show decide (i < 64) = true from decide_eq_true hi, Bool.true_and]
  by_cases h40 : i < 40
  · rw [show decide (i < 40) = true from decide_eq_true h40, Bool.true_and, Bool.true_and, Bool.true_and]
    unfold s_free dn0
    by_cases hc : ((i / 4 : Nat) : Int) < Z.1 * Z.2.1
    · rw [if_pos hc, if_pos hc, nb4_bit (by omega), Nat.testBit_two_pow_sub_one]
      congr 1
      apply decide_eq_decide.mpr
      have := ho.2.2.2.2.1
      omega
    · rw [if_neg hc, if_neg hc, ltM_hi ho (by omega), Nat.zero_testBit, Bool.not_false, Bool.and_true]
  · rw [show decide (i < 40) = false from decide_eq_false h40, Bool.false_and, Bool.false_and]
    rfl⟩
theorem dnl_lp {kc : List va_E} (ho : pz_ok Z) {i : Int} (hi : 0 ≤ i ∧ i < 1600) {M : fx_M} (hz : cz M 11 Z) {q : List LT} (hq : lts q) (h39 : sta (M 39 i) (ltM Z false q)) (K : ∀ y, sta y (dnS Z q) → Q (some (jL y)) M) : ∀ (t c : Nat) (v : Int), (c : Int) + t = Z.1 * Z.2.1 → sta v (fun k => if k < c then dnS Z q k else dn0 Z q k) → wp kc (d + 2) 123 19 [some (jR 34), some (jI i), some (jL v), none, some (jI c), none, none, none] [] M Q := by
  have h9 := pz_n ho
  intro t
  induction t with
  | zero =>
    intro c v hc hv
    refine s123_19 ?_
    rw [hz.2.2.1]
    refine ⟨⟨⟨by omega, by omega⟩, ⟨by omega, by omega⟩⟩, fun _ => K v (sta_ext hv (fun k hk => ?_)), fun h => by omega⟩
    by_cases hkc : k < c
    · rw [if_pos hkc]
    · rw [if_neg hkc]
      unfold dnS dn0
      rw [if_neg (by omega), if_neg (by omega)]
  | succ t ih =>
    intro c v hc hv
    have h16 := ltM_16 ho hq (b := false) (c := c)
    obtain ⟨d1, d2, d3⟩ := dn_step ho hq (c := c) (by omega)
    have go : ∀ w, sta w (fun k => if k = c then dnS Z q k else if k < c then dnS Z q k else dn0 Z q k) → wp kc (d + 2) 123 19 [some (jR 34), some (jI i), some (jL w), none, some (jI ((c : Int) + 1)), none, none, none] [] M Q := fun w hw => by
      have nx := ih (c + 1) w (by omega) (sta_ext hw (fun k hk => by
        by_cases e : k = c
        · rw [if_pos e, if_pos (by omega)]
        · rw [if_neg e]
          by_cases h1 : k < c
          · rw [if_pos h1, if_pos (by omega)]
          · rw [if_neg h1, if_neg (by omega)]))
      rw [show ((c + 1 : Nat) : Int) = (c : Int) + 1 by omega] at nx
      exact nx
    refine s123_19 ?_
    rw [hz.2.2.1]
    refine ⟨⟨⟨by omega, by omega⟩, ⟨by omega, by omega⟩⟩, fun h => by omega, fun _ => ⟨hi, sp_may h39 ⟨by omega, by omega⟩ (by rw [Int.toNat_natCast]; exact h16) (s123_42 ?_)⟩⟩
    rw [Int.toNat_natCast]
    refine ⟨⟨by omega, by omega⟩, fun h0 => go v (sta_ext hv (fun k hk => ?_)), fun hne => sp_bitCount (s123_54 ?_)⟩
    · by_cases e : k = c
      · subst e
        rw [if_neg (by omega), if_pos rfl, d1 (by omega)]
      · rw [if_neg e]
    · have hb := bct4 ⟨ltM Z false q c, h16⟩
      simp only at hb
      rw [hb]
      have hp4 := pop4_le (ltM Z false q c)
      have e4 : ∀ m : Nat, (fun k => if k = c then (if k < c then dnS Z q k else dn0 Z q k) &&& m else if k < c then dnS Z q k else dn0 Z q k) = (fun k => if k = c then dn0 Z q k &&& m else if k < c then dnS Z q k else dn0 Z q k) := fun m => by
        funext k
        by_cases e : k = c
        · rw [if_pos e, if_pos e, if_neg (by omega)]
        · rw [if_neg e, if_neg e]
      by_cases h1 : pop4 (ltM Z false q c) = 1
      · rw [if_pos (by omega)]
        refine ⟨⟨by omega, by omega⟩, fun _ => ⟨by omega, by omega⟩, go _ ?_⟩
        have st := sta_nib hv (c := c) (m := ltM Z false q c) (by omega) (fun i hi => lbit_nibs h16 (by omega) i hi)
        rw [e4] at st
        refine sta_ext st (fun k hk => ?_)
        by_cases e : k = c
        · subst e
          rw [if_pos rfl, if_pos rfl, d2 h1]
        · rw [if_neg e, if_neg e]
      · rw [if_neg (by omega)]
        refine ⟨⟨by omega, by omega⟩, fun h => by omega, go _ ?_⟩
        have st := sta_nib hv (w := 0) (c := c) (m := 0) (by omega) (fun i hi => by rw [lbit_0, Nat.zero_testBit, Bool.and_false])
        rw [e4] at st
        refine sta_ext st (fun k hk => ?_)
        by_cases e : k = c
        · subst e
          rw [if_pos rfl, if_pos rfl, d3 (by omega) h1]
        · rw [if_neg e, if_neg e]
theorem sp_denied {kc : List va_E} (ho : pz_ok Z) {i : Int} (hi : 0 ≤ i ∧ i < 1600) {M : fx_M} (hz : cz M 11 Z) (hf : sta (M 34 8) (s_free Z)) {q : List LT} (hq : lts q) (h38 : sta (M 38 i) (ltM Z true q)) (h39 : sta (M 39 i) (ltM Z false q)) (K : ∀ y, sta y (dnS Z q) → Q (some (jL y)) M) : wc kc (d + 2) 123 [jR 34, jI i] M Q := by
  have h9 := pz_n ho
  refine s123 ⟨hi, dnl_lp ho hi hz hq h39 K (Z.1 * Z.2.1).toNat 0 _ (by omega) ?_⟩
  have := sta_dn0 ho hf h38
  refine sta_ext this (fun k hk => ?_)
  rw [if_neg (by omega)]
end CDN
/-- a literal: not so 0, so 1, neither 2 -/
def lvl (S : Nat → Nat) (x : LT) : Nat := if (S x.2.1.toNat).testBit x.2.2.toNat = true then (if S x.2.1.toNat = 2 ^ x.2.2.toNat then (if x.1 = 0 then 1 else 0) else 2) else (if x.1 = 0 then 0 else 1)
/-- a literal made so -/
def mkT (S : Nat → Nat) (x : LT) : Nat → Nat := if x.1 = 0 then s_only S x.2.1.toNat x.2.2.toNat else s_wo S x.2.1.toNat x.2.2.toNat
def opnL (S : Nat → Nat) (q : List LT) : List LT := q.filter fun x => decide (lvl S x = 2)
/-- a line as a unit: 2 none is so, 1 one is made so, 0 nothing -/
def unt (S : Nat → Nat) (q : List LT) : Nat × (Nat → Nat) := if (q.any fun x => decide (lvl S x = 1)) = true then (0, S) else match opnL S q with
  | [] => (2, S)
  | [x] => (1, mkT S x)
  | _ => (0, S)
/-- all lines once: ended, standing, changed -/
def uPs : List (List LT) → (Nat → Nat) → Bool × (Nat → Nat) × Bool
  | [], S => (false, S, false)
  | q :: A, S => if (unt S q).1 = 2 then (true, S, false) else if (unt S q).1 = 1 then ((uPs A (unt S q).2).1, (uPs A (unt S q).2).2.1, true) else uPs A S
def uRn (A : List (List LT)) : Nat → (Nat → Nat) → Bool
  | 0, _ => false
  | f + 1, S => if (uPs A S).1 = true then true else if (uPs A S).2.2 = true then uRn A f (uPs A S).2.1 else false
/-- a line's literals are right ones -/
abbrev ltg (Z : PZ) (q : List LT) : Prop := lts q ∧ ¬ flw Z q
theorem ltg_lin {Z : PZ} {q : List LT} (h : ltg Z q) : ∀ x ∈ q, lin Z x := fun x hx => Classical.byContradiction (fun hn => h.2 (Or.inl ⟨x, hx, hn⟩))
theorem ltg_nd {Z : PZ} {q : List LT} (h : ltg Z q) : (q.map ltn).Nodup := Classical.byContradiction (fun hn => h.2 (Or.inr hn))
/-- standings that may be gone on with -/
abbrev s_go (Z : PZ) (S : Nat → Nat) : Prop := s_ok Z S ∧ ∀ c, c < 10 → S c ≠ 0
theorem pow_16' {y : Nat} (hy : y < 4) : 2 ^ y < 16 := Nat.pow_lt_pow_right (by decide) hy
theorem lvl_two : ∀ (m : Fin 16) (y : Fin 4), (m : Nat).testBit (y : Nat) = true → (m : Nat) ≠ 2 ^ (y : Nat) → clr (m : Nat) (y : Nat) ≠ 0 ∧ pop4 (clr (m : Nat) (y : Nat)) < pop4 (m : Nat) ∧ pop4 (2 ^ (y : Nat)) < pop4 (m : Nat) := by decide +kernel
theorem pS_cg {S T : Nat → Nat} : ∀ n, (∀ c, c < n → S c = T c) → pS S n = pS T n
  | 0, _ => rfl
  | n + 1, h => by
    unfold pS
    rw [pS_cg n (fun c hc => h c (by omega)), h n (by omega)]
theorem pS_lt {S T : Nat → Nat} {k : Nat} : ∀ n, k < n → (∀ c, c < n → c ≠ k → S c = T c) → pop4 (S k) < pop4 (T k) → pS S n < pS T n
  | 0, h, _, _ => by omega
  | n + 1, h, he, hp => by
    unfold pS
    by_cases e : k = n
    · subst e
      rw [pS_cg k (fun c hc => he c (by omega) (by omega))]
      omega
    · have := pS_lt n (by omega) (fun c hc => he c (by omega)) hp
      rw [he n (by omega) (by omega)]
      omega
/-- making a literal so -/
theorem mkT_ok {Z : PZ} (ho : pz_ok Z) {S : Nat → Nat} (hs : s_go Z S) {x : LT} (hx : 0 ≤ x.2.1 ∧ 0 ≤ x.2.2) (hl : lin Z x) (h2 : lvl S x = 2) : s_go Z (mkT S x) ∧ pS (mkT S x) 10 < pS S 10 := by
  have h9 := pz_n ho
  have h4 := ho.2.2.2.2.2.1
  obtain ⟨l1, l2⟩ := hl
  have h16 := s_ok_16 ho hs.1 (c := x.2.1.toNat) (by omega)
  unfold lvl at h2
  by_cases hb : (S x.2.1.toNat).testBit x.2.2.toNat = true
  · rw [if_pos hb] at h2
    by_cases he : S x.2.1.toNat = 2 ^ x.2.2.toNat
    · rw [if_pos he] at h2
      split at h2 <;> omega
    · have t := lvl_two ⟨S x.2.1.toNat, h16⟩ ⟨x.2.2.toNat, by omega⟩ hb he
      simp only at t
      unfold mkT
      split
      · refine ⟨⟨s_only_ok hs.1 (by omega) (by omega), fun c hc => ?_⟩, pS_lt (k := x.2.1.toNat) 10 (by omega) (fun c hc hne => ?_) ?_⟩
        · unfold s_only
          split
          · exact Nat.ne_of_gt (Nat.two_pow_pos _)
          · exact hs.2 c hc
        · unfold s_only
          rw [if_neg hne]
        · unfold s_only
          rw [if_pos rfl]
          exact t.2.2
      · refine ⟨⟨s_wo_ok hs.1 (by omega), fun c hc => ?_⟩, pS_lt (k := x.2.1.toNat) 10 (by omega) (fun c hc hne => ?_) ?_⟩
        · unfold s_wo
          split
          · next e =>
            rw [e]
            exact t.1
          · exact hs.2 c hc
        · unfold s_wo
          rw [if_neg hne]
        · unfold s_wo
          rw [if_pos rfl]
          exact t.2.1
  · rw [if_neg hb] at h2
    split at h2 <;> omega
theorem opnL_mem {S : Nat → Nat} {q : List LT} {x : LT} (h : x ∈ opnL S q) : x ∈ q ∧ lvl S x = 2 := by
  unfold opnL at h
  obtain ⟨h1, h2⟩ := List.mem_filter.mp h
  exact ⟨h1, of_decide_eq_true h2⟩
/-- what a unit is -/
theorem unt_cases {S : Nat → Nat} {q : List LT} : ((unt S q) = (0, S) ∧ ((∃ x ∈ q, lvl S x = 1) ∨ ∃ x y r, opnL S q = x :: y :: r)) ∨ ((unt S q) = (2, S) ∧ (∀ x ∈ q, lvl S x ≠ 1) ∧ opnL S q = []) ∨ ∃ x, (unt S q) = (1, mkT S x) ∧ (∀ x ∈ q, lvl S x ≠ 1) ∧ opnL S q = [x] := by
  unfold unt
  by_cases h : (q.any fun x => decide (lvl S x = 1)) = true
  · rw [if_pos h]
    left
    refine ⟨rfl, Or.inl ?_⟩
    obtain ⟨x, h1, h2⟩ := List.any_eq_true.mp h
    exact ⟨x, h1, of_decide_eq_true h2⟩
  · rw [if_neg h]
    have hn : ∀ x ∈ q, lvl S x ≠ 1 := fun x hx h1 => h (List.any_eq_true.mpr ⟨x, hx, decide_eq_true h1⟩)
    match ho : opnL S q with
    | [] => exact Or.inr (Or.inl ⟨rfl, hn, rfl⟩)
    | [x] => exact Or.inr (Or.inr ⟨x, rfl, hn, rfl⟩)
    | x :: y :: r => exact Or.inl ⟨rfl, Or.inr ⟨x, y, r, rfl⟩⟩
theorem unt_ok {Z : PZ} (ho : pz_ok Z) {S : Nat → Nat} (hs : s_go Z S) {q : List LT} (hq : ltg Z q) : s_go Z (unt S q).2 ∧ pS (unt S q).2 10 ≤ pS S 10 ∧ ((unt S q).1 = 1 → pS (unt S q).2 10 < pS S 10) := by
  rcases unt_cases (S := S) (q := q) with ⟨e, _⟩ | ⟨e, _⟩ | ⟨x, e, _, h2⟩
  · rw [e]
    exact ⟨hs, Nat.le_refl _, fun h => by simp at h⟩
  · rw [e]
    exact ⟨hs, Nat.le_refl _, fun h => by simp at h⟩
  · have hx := opnL_mem (S := S) (q := q) (x := x) (by rw [h2]; exact List.mem_singleton.mpr rfl)
    have hb := hq.1 x hx.1
    have := mkT_ok ho hs ⟨hb.1, hb.2.2.1⟩ (ltg_lin hq x hx.1) hx.2
    rw [e]
    exact ⟨this.1, Nat.le_of_lt this.2, fun _ => this.2⟩
theorem uPs_ok {Z : PZ} (ho : pz_ok Z) : ∀ {A : List (List LT)} {S : Nat → Nat}, s_go Z S → (∀ q ∈ A, ltg Z q) → s_go Z (uPs A S).2.1 ∧ pS (uPs A S).2.1 10 ≤ pS S 10 ∧ ((uPs A S).2.2 = true → pS (uPs A S).2.1 10 < pS S 10) ∧ ((uPs A S).2.2 = false → (uPs A S).2.1 = S)
  | [], S, hs, _ => ⟨hs, Nat.le_refl _, fun h => (by cases h), fun _ => rfl⟩
  | q :: A, S, hs, hA => by
    have hq := hA q (List.mem_cons_self ..)
    have u := unt_ok ho hs hq
    rw [uPs]
    split
    · exact ⟨hs, Nat.le_refl _, fun h => (by cases h), fun _ => rfl⟩
    · split
      · next h1 =>
        have ih := uPs_ok ho (A := A) u.1 (fun z hz => hA z (List.mem_cons_of_mem _ hz))
        have u3 := u.2.2 h1
        exact ⟨ih.1, by have := ih.2.1; simp only; omega, fun _ => by have := ih.2.1; simp only; omega, fun h => by cases h⟩
      · exact uPs_ok ho (A := A) hs (fun z hz => hA z (List.mem_cons_of_mem _ hz))
theorem uRn_fuel {Z : PZ} (ho : pz_ok Z) {A : List (List LT)} (hA : ∀ q ∈ A, ltg Z q) : ∀ (f f' : Nat) (S : Nat → Nat), s_go Z S → pS S 10 < f → pS S 10 < f' → uRn A f S = uRn A f' S
  | 0, f', S, _, h, _ => by omega
  | f + 1, 0, S, _, _, h => by omega
  | f + 1, f' + 1, S, hs, h1, h2 => by
    have u := uPs_ok ho hs hA
    rw [uRn, uRn]
    split
    · rfl
    · split
      · next hc =>
        have := u.2.2.1 hc
        exact uRn_fuel ho hA f f' _ u.1 (by omega) (by omega)
      · rfl
