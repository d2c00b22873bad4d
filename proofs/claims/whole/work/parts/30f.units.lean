/-! The class's lines: givens, rules, units. -/
theorem pS_mem {S : Nat → Nat} {c : Nat} : ∀ {n : Nat}, c < n → pop4 (S c) ≤ pS S n
  | 0, h => by omega
  | n + 1, h => by
    unfold pS
    by_cases e : c = n
    · rw [e]
      omega
    · have := pS_mem (S := S) (c := c) (n := n) (by omega)
      omega
theorem pS_mem2 {S : Nat → Nat} {a b : Nat} (hab : a ≠ b) : ∀ {n : Nat}, a < n → b < n → pop4 (S a) + pop4 (S b) ≤ pS S n
  | 0, h, _ => by omega
  | n + 1, h1, h2 => by
    unfold pS
    by_cases e : a = n
    · have := pS_mem (S := S) (c := b) (n := n) (by omega)
      rw [e]
      omega
    · by_cases e2 : b = n
      · have := pS_mem (S := S) (c := a) (n := n) (by omega)
        rw [e2]
        omega
      · have := pS_mem2 (S := S) hab (n := n) (by omega) (by omega)
        omega
theorem pop4_b1 : ∀ (m : Fin 16) (y : Fin 4), (m : Nat).testBit (y : Nat) = true → 1 ≤ pop4 (m : Nat) := by decide +kernel
theorem pop4_b2 : ∀ (m : Fin 16) (y z : Fin 4), (m : Nat).testBit (y : Nat) = true → (m : Nat).testBit (z : Nat) = true → (y : Nat) ≠ (z : Nat) → 2 ≤ pop4 (m : Nat) := by decide +kernel
theorem pop4_z : pop4 0 = 0 := by decide
theorem pS_0 {S : Nat → Nat} : ∀ {n : Nat}, (∀ c, c < n → S c = 0) → pS S n = 0
  | 0, _ => rfl
  | n + 1, h => by
    unfold pS
    rw [pS_0 (fun c hc => h c (by omega)), h n (by omega), pop4_z]
theorem pS_1 : ∀ (c : Fin 10) (y : Fin 4), pS (fun k => if k = (c : Nat) then 2 ^ (y : Nat) else 0) 10 = 1 := by decide +kernel
theorem lshl1_pow : ∀ k : Fin 40, fx_lshl 1 ((k : Nat) : Int) = ((2 ^ (k : Nat) : Nat) : Int) := by decide +kernel
theorem al_one : ∀ (m : Fin 16) (y : Fin 4), ((m : Nat) &&& ((m : Nat) - 1) = 0 ∧ (m : Nat).testBit (y : Nat) = true) ↔ (m : Nat) = 2 ^ (y : Nat) := by decide +kernel
/-- the literals that are neither so nor not, as bits -/
def oPs (Z : PZ) (S : Nat → Nat) (q : List LT) : Nat → Nat := fun c => ltM Z true q c &&& S c
def oMs (Z : PZ) (S : Nat → Nat) (q : List LT) : Nat → Nat := fun c => nb4 (fun y => (ltM Z false q c).testBit y && !(s_al S c).testBit y)
section CUN
variable {L : Nat} {xs : Nat → Int32} {d : Nat} {Q : Option fx_V → fx_M → Prop} {Z : PZ} {M : fx_M}
theorem al_bit {S : Nat → Nat} {c y : Nat} (h16 : S c < 16) (hy : y < 4) : (s_al S c).testBit y = true ↔ S c = 2 ^ y := by
  have a := al_one ⟨S c, h16⟩ ⟨y, hy⟩
  simp only at a
  unfold s_al
  by_cases h : S c &&& (S c - 1) = 0
  · rw [if_pos h, ← a]
    exact ⟨fun hb => ⟨h, hb⟩, fun hb => hb.2⟩
  · rw [if_neg h, ← a, Nat.zero_testBit]
    exact ⟨fun hb => (by cases hb), fun hb => absurd hb.1 h⟩
theorem lt_b (ho : pz_ok Z) {q : List LT} (hq : ltg Z q) {x : LT} (hx : x ∈ q) : 0 ≤ x.2.1 ∧ x.2.1.toNat < 9 ∧ (x.2.1.toNat : Int) = x.2.1 ∧ 0 ≤ x.2.2 ∧ x.2.2.toNat < 4 ∧ (x.2.1.toNat : Int) < Z.1 * Z.2.1 ∧ (x.2.2.toNat : Int) < Z.2.2.1 := by
  have h9 := pz_n ho
  have h4 := ho.2.2.2.2.2.1
  have hb := hq.1 x hx
  have hl := ltg_lin hq x hx
  obtain ⟨l1, l2⟩ := hl
  omega
/-- whether a literal is so, by bits -/
theorem so_iff (ho : pz_ok Z) {S : Nat → Nat} (hs : s_go Z S) {q : List LT} (hq : ltg Z q) {pl mi v al : Int} (hp : sta pl (ltM Z true q)) (hm : sta mi (ltM Z false q)) (hv : sta v S) (ha : sta al (s_al S)) : fx_lor (fx_land pl al) (fx_land mi (fx_lxor v (-1))) = 0 ↔ ∀ x ∈ q, lvl S x ≠ 1 := by
  have h9 := pz_n ho
  have h16 := s10 ho hs.1
  have hb : ∀ i : Nat, i < 64 → lbit (fx_lor (fx_land pl al) (fx_land mi (fx_lxor v (-1)))) i = ((decide (i < 40) && (ltM Z true q (i / 4)).testBit (i % 4)) && (decide (i < 40) && (s_al S (i / 4)).testBit (i % 4)) || (decide (i < 40) && (ltM Z false q (i / 4)).testBit (i % 4)) && !(decide (i < 40) && (S (i / 4)).testBit (i % 4))) := fun i hi => by
    rw [lbit_lor, lbit_land, lbit_land, lbit_not, hp.2 i hi, hm.2 i hi, hv.2 i hi, ha.2 i hi, show decide (i < 64) = true from decide_eq_true hi, Bool.true_and]
  constructor
  · intro h0 x hx h1
    obtain ⟨b1, b2, b3, b4, b5, b6, b7⟩ := lt_b ho hq hx
    have hl := ltg_lin hq x hx
    have hbit := hb (4 * x.2.1.toNat + x.2.2.toNat) (by omega)
    rw [h0, lbit_0, show (4 * x.2.1.toNat + x.2.2.toNat) / 4 = x.2.1.toNat by omega, show (4 * x.2.1.toNat + x.2.2.toNat) % 4 = x.2.2.toNat by omega, show decide (4 * x.2.1.toNat + x.2.2.toNat < 40) = true from decide_eq_true (by omega), Bool.true_and, Bool.true_and, Bool.true_and, Bool.true_and] at hbit
    have hn := hbit.symm
    rw [Bool.or_eq_false_iff, Bool.and_eq_false_iff, Bool.and_eq_false_iff] at hn
    have hmem : (ltM Z (decide (x.1 = 0)) q x.2.1.toNat).testBit x.2.2.toNat = true := ltM_bit.mpr ⟨x, hx, rfl, hl, b3.symm, rfl⟩
    unfold lvl at h1
    by_cases hx0 : x.1 = 0
    · rw [show decide (x.1 = 0) = true from decide_eq_true hx0] at hmem
      by_cases hbS : (S x.2.1.toNat).testBit x.2.2.toNat = true
      · rw [if_pos hbS] at h1
        by_cases he : S x.2.1.toNat = 2 ^ x.2.2.toNat
        · rcases hn.1 with h | h
          · rw [hmem] at h
            cases h
          · rw [(al_bit (h16 _ (by omega)) b5).mpr he] at h
            cases h
        · rw [if_neg he] at h1
          omega
      · rw [if_neg hbS, if_pos hx0] at h1
        omega
    · rw [show decide (x.1 = 0) = false from decide_eq_false hx0] at hmem
      by_cases hbS : (S x.2.1.toNat).testBit x.2.2.toNat = true
      · rw [if_pos hbS] at h1
        split at h1
        all_goals first | omega | (rw [if_neg hx0] at h1; omega)
      · rcases hn.2 with h | h
        · rw [hmem] at h
          cases h
        · simp only [Bool.not_eq_true] at hbS
          rw [hbS] at h
          cases h
  · intro hall
    by_cases hne : fx_lor (fx_land pl al) (fx_land mi (fx_lxor v (-1))) = 0
    · exact hne
    · exfalso
      obtain ⟨i, hi, h1⟩ := (lbit_ne0 (in64_lor _ _)).mp hne
      rw [hb i hi, Bool.or_eq_true, Bool.and_eq_true, Bool.and_eq_true, Bool.and_eq_true, Bool.and_eq_true, Bool.and_eq_true] at h1
      rcases h1 with ⟨⟨h40, hP⟩, _, hA⟩ | ⟨⟨h40, hMi⟩, hS⟩
      · have h40 := of_decide_eq_true h40
        obtain ⟨x, hx, e1, e2, e3, e4⟩ := ltM_bit.mp hP
        have e5 := (al_bit (h16 _ (by omega)) (by omega)).mp hA
        refine hall x hx ?_
        unfold lvl
        have e6 : x.2.1.toNat = i / 4 := by omega
        rw [e6, e4, e5, if_pos (by rw [pow_bit]; exact decide_eq_true rfl), if_pos rfl, if_pos (of_decide_eq_true e1)]
      · have h40 := of_decide_eq_true h40
        obtain ⟨x, hx, e1, e2, e3, e4⟩ := ltM_bit.mp hMi
        rw [show decide (i < 40) = true from decide_eq_true h40, Bool.true_and] at hS
        refine hall x hx ?_
        unfold lvl
        have e6 : x.2.1.toNat = i / 4 := by omega
        simp only [Bool.not_eq_true'] at hS
        rw [e6, e4, hS, if_neg (by decide), if_neg (of_decide_eq_false e1)]
theorem sta_oPs {S : Nat → Nat} {q : List LT} {pl v : Int} (hp : sta pl (ltM Z true q)) (hv : sta v S) : sta (fx_land pl v) (oPs Z S q) := ⟨in64_land _ _, fun i hi => by
  rw [lbit_land, hp.2 i hi, hv.2 i hi]
  unfold oPs
  rw [Nat.testBit_and]
  cases decide (i < 40) <;> simp⟩
theorem sta_oMs {S : Nat → Nat} {q : List LT} {mi al : Int} (hm : sta mi (ltM Z false q)) (ha : sta al (s_al S)) : sta (fx_land mi (fx_lxor al (-1))) (oMs Z S q) := ⟨in64_land _ _, fun i hi => by
  rw [lbit_land, lbit_not, hm.2 i hi, ha.2 i hi, show decide (i < 64) = true from decide_eq_true hi, Bool.true_and]
  unfold oMs
  rw [nb4_bit (by omega)]
  cases decide (i < 40) <;> simp⟩
/-- the bits are those of literals -/
theorem oPs_bit (ho : pz_ok Z) {S : Nat → Nat} {q : List LT} (hq : ltg Z q) (hn : ∀ x ∈ q, lvl S x ≠ 1) {c y : Nat} : (oPs Z S q c).testBit y = true ↔ ∃ x ∈ opnL S q, x.1 = 0 ∧ x.2.1.toNat = c ∧ x.2.2.toNat = y := by
  unfold oPs
  rw [Nat.testBit_and, Bool.and_eq_true, ltM_bit]
  constructor
  · rintro ⟨⟨x, h1, h2, h3, h4, h5⟩, h6⟩
    have hx0 := of_decide_eq_true h2
    refine ⟨x, ?_, hx0, by omega, h5⟩
    unfold opnL
    refine List.mem_filter.mpr ⟨h1, decide_eq_true ?_⟩
    have h7 := hn x h1
    unfold lvl at h7 ⊢
    have e6 : x.2.1.toNat = c := by omega
    rw [e6, h5, if_pos h6] at h7 ⊢
    by_cases he : S c = 2 ^ y
    · rw [if_pos he, if_pos hx0] at h7
      exact absurd rfl h7
    · rw [if_neg he]
  · rintro ⟨x, h1, h2, h3, h4⟩
    obtain ⟨m1, m2⟩ := opnL_mem h1
    obtain ⟨b1, b2, b3, b4, b5, b6, b7⟩ := lt_b ho hq m1
    refine ⟨⟨x, m1, decide_eq_true h2, ltg_lin hq x m1, by omega, h4⟩, ?_⟩
    unfold lvl at m2
    rw [h3, h4] at m2
    by_cases hb : (S c).testBit y = true
    · exact hb
    · rw [if_neg hb, if_pos h2] at m2
      omega
theorem oMs_bit (ho : pz_ok Z) {S : Nat → Nat} (hs : s_go Z S) {q : List LT} (hq : ltg Z q) (hn : ∀ x ∈ q, lvl S x ≠ 1) {c y : Nat} (hc : c < 10) (hy : y < 4) : (oMs Z S q c).testBit y = true ↔ ∃ x ∈ opnL S q, x.1 ≠ 0 ∧ x.2.1.toNat = c ∧ x.2.2.toNat = y := by
  have h16 := s10 ho hs.1
  unfold oMs
  rw [nb4_bit hy, Bool.and_eq_true, ltM_bit]
  constructor
  · rintro ⟨⟨x, h1, h2, h3, h4, h5⟩, h6⟩
    have hx0 := of_decide_eq_false h2
    refine ⟨x, ?_, hx0, by omega, h5⟩
    unfold opnL
    refine List.mem_filter.mpr ⟨h1, decide_eq_true ?_⟩
    have h7 := hn x h1
    unfold lvl at h7 ⊢
    have e6 : x.2.1.toNat = c := by omega
    rw [e6, h5] at h7 ⊢
    have h8 : S c ≠ 2 ^ y := fun e => by
      rw [(al_bit (h16 c hc) hy).mpr e] at h6
      cases h6
    by_cases hb : (S c).testBit y = true
    · rw [if_pos hb, if_neg h8]
    · rw [if_neg hb, if_neg hx0] at h7
      exact absurd rfl h7
  · rintro ⟨x, h1, h2, h3, h4⟩
    obtain ⟨m1, m2⟩ := opnL_mem h1
    obtain ⟨b1, b2, b3, b4, b5, b6, b7⟩ := lt_b ho hq m1
    refine ⟨⟨x, m1, decide_eq_false h2, ltg_lin hq x m1, by omega, h4⟩, ?_⟩
    unfold lvl at m2
    rw [h3, h4] at m2
    by_cases hb : (S c).testBit y = true
    · rw [if_pos hb] at m2
      by_cases he : S c = 2 ^ y
      · rw [if_pos he, if_neg h2] at m2
        omega
      · cases hal : (s_al S c).testBit y with
        | false => rfl
        | true => exact absurd ((al_bit (h16 c hc) hy).mp hal) he
    · rw [if_neg hb, if_neg h2] at m2
      omega
theorem oPs_lt (ho : pz_ok Z) {S : Nat → Nat} {q : List LT} (hq : lts q) {c : Nat} : oPs Z S q c < 16 := Nat.lt_of_le_of_lt Nat.and_le_left (ltM_16 ho hq)
theorem oMs_lt {S : Nat → Nat} {q : List LT} {c : Nat} : oMs Z S q c < 16 := nb4_lt
theorem zero_of {T : Nat → Nat} {c : Nat} (h16 : T c < 16) (h : ∀ y, y < 4 → ¬ (T c).testBit y = true) : T c = 0 := ext4 h16 (by omega) (fun y hy => by rw [Nat.zero_testBit]; simpa using h y hy)
theorem pow_of {T : Nat → Nat} {c y : Nat} (hy : y < 4) (h16 : T c < 16) (h : ∀ z, z < 4 → ((T c).testBit z = true ↔ z = y)) : T c = 2 ^ y := ext4 h16 (pow_16' hy) (fun z hz => by
  rw [pow_bit, Bool.eq_iff_iff, h z hz, decide_eq_true_eq])
/-- how many literals are neither -/
theorem cnt_0 (ho : pz_ok Z) {S : Nat → Nat} (hs : s_go Z S) {q : List LT} (hq : ltg Z q) (hn : ∀ x ∈ q, lvl S x ≠ 1) (h : opnL S q = []) : pS (oPs Z S q) 10 = 0 ∧ pS (oMs Z S q) 10 = 0 := by
  refine ⟨pS_0 (fun c hc => zero_of (oPs_lt ho hq.1) (fun y hy hb => ?_)), pS_0 (fun c hc => zero_of oMs_lt (fun y hy hb => ?_))⟩
  · obtain ⟨x, h1, _⟩ := (oPs_bit ho hq hn).mp hb
    rw [h] at h1
    cases h1
  · obtain ⟨x, h1, _⟩ := (oMs_bit ho hs hq hn hc hy).mp hb
    rw [h] at h1
    cases h1
theorem cnt_1 (ho : pz_ok Z) {S : Nat → Nat} (hs : s_go Z S) {q : List LT} (hq : ltg Z q) (hn : ∀ x ∈ q, lvl S x ≠ 1) {x : LT} (h : opnL S q = [x]) : (x.1 = 0 → (∀ c, c < 10 → oPs Z S q c = if c = x.2.1.toNat then 2 ^ x.2.2.toNat else 0) ∧ ∀ c, c < 10 → oMs Z S q c = 0) ∧ (x.1 ≠ 0 → (∀ c, c < 10 → oMs Z S q c = if c = x.2.1.toNat then 2 ^ x.2.2.toNat else 0) ∧ ∀ c, c < 10 → oPs Z S q c = 0) := by
  have hxo : x ∈ opnL S q := by rw [h]; exact List.mem_singleton.mpr rfl
  obtain ⟨m1, m2⟩ := opnL_mem hxo
  obtain ⟨b1, b2, b3, b4, b5, b6, b7⟩ := lt_b ho hq m1
  have only : ∀ z ∈ opnL S q, z = x := fun z hz => by
    rw [h] at hz
    exact List.mem_singleton.mp hz
  refine ⟨fun h0 => ⟨fun c hc => ?_, fun c hc => zero_of oMs_lt (fun y hy hb => ?_)⟩, fun h0 => ⟨fun c hc => ?_, fun c hc => zero_of (oPs_lt ho hq.1) (fun y hy hb => ?_)⟩⟩
  · by_cases e : c = x.2.1.toNat
    · rw [if_pos e]
      refine pow_of b5 (oPs_lt ho hq.1) (fun z hz => ?_)
      rw [oPs_bit ho hq hn]
      constructor
      · rintro ⟨w, h1, _, _, h4⟩
        rw [only w h1] at h4
        exact h4.symm
      · intro hz2
        exact ⟨x, hxo, h0, e.symm, hz2.symm⟩
    · rw [if_neg e]
      refine zero_of (oPs_lt ho hq.1) (fun y hy hb => ?_)
      obtain ⟨w, h1, _, h3, _⟩ := (oPs_bit ho hq hn).mp hb
      rw [only w h1] at h3
      exact e h3.symm
  · obtain ⟨w, h1, h2, _⟩ := (oMs_bit ho hs hq hn hc hy).mp hb
    rw [only w h1] at h2
    exact h2 h0
  · by_cases e : c = x.2.1.toNat
    · rw [if_pos e]
      refine pow_of b5 oMs_lt (fun z hz => ?_)
      rw [oMs_bit ho hs hq hn hc hz]
      constructor
      · rintro ⟨w, h1, _, _, h4⟩
        rw [only w h1] at h4
        exact h4.symm
      · intro hz2
        exact ⟨x, hxo, h0, e.symm, hz2.symm⟩
    · rw [if_neg e]
      refine zero_of oMs_lt (fun y hy hb => ?_)
      obtain ⟨w, h1, _, h3, _⟩ := (oMs_bit ho hs hq hn hc hy).mp hb
      rw [only w h1] at h3
      exact e h3.symm
  · obtain ⟨w, h1, h2, _⟩ := (oPs_bit ho hq hn).mp hb
    rw [only w h1] at h2
    exact h0 h2
theorem cnt_2 (ho : pz_ok Z) {S : Nat → Nat} (hs : s_go Z S) {q : List LT} (hq : ltg Z q) (hn : ∀ x ∈ q, lvl S x ≠ 1) {x z : LT} {r : List LT} (h : opnL S q = x :: z :: r) : 2 ≤ pS (oPs Z S q) 10 + pS (oMs Z S q) 10 := by
  have hx : x ∈ opnL S q := by rw [h]; exact List.mem_cons_self ..
  have hz : z ∈ opnL S q := by rw [h]; exact List.mem_cons_of_mem _ (List.mem_cons_self ..)
  obtain ⟨m1, _⟩ := opnL_mem hx
  obtain ⟨n1, _⟩ := opnL_mem hz
  obtain ⟨b1, b2, b3, b4, b5, b6, b7⟩ := lt_b ho hq m1
  obtain ⟨c1, c2, c3, c4, c5, c6, c7⟩ := lt_b ho hq n1
  have hd : ltn x ≠ ltn z := by
    have hsub : (opnL S q).map ltn |>.Nodup := by
      have := ltg_nd hq
      unfold opnL
      exact List.Nodup.sublist (List.Sublist.map _ (List.filter_sublist)) this
    rw [h, List.map_cons, List.map_cons] at hsub
    have := (List.nodup_cons.mp hsub).1
    intro e
    exact this (by rw [e]; exact List.mem_cons_self ..)
  have two : ∀ (T : Nat → Nat), (∀ c, T c < 16) → (T x.2.1.toNat).testBit x.2.2.toNat = true → (T z.2.1.toNat).testBit z.2.2.toNat = true → ¬ (x.2.1.toNat = z.2.1.toNat ∧ x.2.2.toNat = z.2.2.toNat) → 2 ≤ pS T 10 := fun T h16 t1 t2 hne => by
    by_cases e : x.2.1.toNat = z.2.1.toNat
    · rw [← e] at t2
      have := pop4_b2 ⟨T x.2.1.toNat, h16 _⟩ ⟨x.2.2.toNat, b5⟩ ⟨z.2.2.toNat, c5⟩ t1 t2 (fun e2 => hne ⟨e, e2⟩)
      have h2 := pS_mem (S := T) (c := x.2.1.toNat) (n := 10) (by omega)
      simp only at this
      omega
    · have p1 := pop4_b1 ⟨T x.2.1.toNat, h16 _⟩ ⟨x.2.2.toNat, b5⟩ t1
      have p2 := pop4_b1 ⟨T z.2.1.toNat, h16 _⟩ ⟨z.2.2.toNat, c5⟩ t2
      have h2 := pS_mem2 (S := T) e (n := 10) (by omega) (by omega)
      simp only at p1 p2
      omega
  have one : ∀ (T : Nat → Nat) (w : LT), (∀ c, T c < 16) → w.2.1.toNat < 9 → w.2.2.toNat < 4 → (T w.2.1.toNat).testBit w.2.2.toNat = true → 1 ≤ pS T 10 := fun T w h16 w1 w2 t1 => by
    have p1 := pop4_b1 ⟨T w.2.1.toNat, h16 _⟩ ⟨w.2.2.toNat, w2⟩ t1
    have h2 := pS_mem (S := T) (c := w.2.1.toNat) (n := 10) (by omega)
    simp only at p1
    omega
  have ex2 : x.2.1.toNat = z.2.1.toNat ∧ x.2.2.toNat = z.2.2.toNat → x.2 = z.2 := fun e => Prod.ext (by omega) (by omega)
  by_cases hx0 : x.1 = 0
  · have tx : (oPs Z S q x.2.1.toNat).testBit x.2.2.toNat = true := (oPs_bit ho hq hn).mpr ⟨x, hx, hx0, rfl, rfl⟩
    by_cases hz0 : z.1 = 0
    · have tz : (oPs Z S q z.2.1.toNat).testBit z.2.2.toNat = true := (oPs_bit ho hq hn).mpr ⟨z, hz, hz0, rfl, rfl⟩
      have := two (oPs Z S q) (fun c => oPs_lt ho hq.1) tx tz (fun e => hd (by unfold ltn; rw [if_pos hx0, if_pos hz0, ex2 e]))
      omega
    · have tz : (oMs Z S q z.2.1.toNat).testBit z.2.2.toNat = true := (oMs_bit ho hs hq hn (by omega) c5).mpr ⟨z, hz, hz0, rfl, rfl⟩
      have p1 := one (oPs Z S q) x (fun c => oPs_lt ho hq.1) b2 b5 tx
      have p2 := one (oMs Z S q) z (fun c => oMs_lt) c2 c5 tz
      omega
  · have tx : (oMs Z S q x.2.1.toNat).testBit x.2.2.toNat = true := (oMs_bit ho hs hq hn (by omega) b5).mpr ⟨x, hx, hx0, rfl, rfl⟩
    by_cases hz0 : z.1 = 0
    · have tz : (oPs Z S q z.2.1.toNat).testBit z.2.2.toNat = true := (oPs_bit ho hq hn).mpr ⟨z, hz, hz0, rfl, rfl⟩
      have p1 := one (oMs Z S q) x (fun c => oMs_lt) b2 b5 tx
      have p2 := one (oPs Z S q) z (fun c => oPs_lt ho hq.1) c2 c5 tz
      omega
    · have tz : (oMs Z S q z.2.1.toNat).testBit z.2.2.toNat = true := (oMs_bit ho hs hq hn (by omega) c5).mpr ⟨z, hz, hz0, rfl, rfl⟩
      have := two (oMs Z S q) (fun c => oMs_lt) tx tz (fun e => hd (by unfold ltn; rw [if_neg hx0, if_neg hz0, ex2 e]))
      omega
theorem sta_one {c y : Nat} (hc : c < 10) (hy : y < 4) : sta (fx_lshl 1 (4 * (c : Int) + (y : Int))) (fun k => if k = c then 2 ^ y else 0) := ⟨in64_lshl _ _, fun i hi => by
  rw [lbit_1s ⟨by omega, by omega⟩ i hi]
  dsimp only
  by_cases e : i / 4 = c
  · rw [if_pos e, pow_bit]
    by_cases h40 : i < 40
    · rw [show decide (i < 40) = true from decide_eq_true h40, Bool.true_and]
      apply decide_eq_decide.mpr
      omega
    · omega
  · rw [if_neg e, Nat.zero_testBit, Bool.and_false]
    exact decide_eq_false (by omega)⟩
theorem sp_made {kc : List va_E} {v b : Int} {S : Nat → Nat} {c y : Nat} (hc : c < 9) (hy : y < 4) (hv : sta v S) (hb : b = fx_lshl 1 (4 * (c : Int) + (y : Int))) (K : ∀ w, sta w (s_only S c y) → Q (some (jL w)) M) : wc kc (d + 2) 129 [jR 34, jL v, jL b] M Q := by
  have e1 := lshl1_pow ⟨4 * c + y, by omega⟩
  have e2 := lct_pow ⟨4 * c + y, by omega⟩
  simp only at e1 e2
  have e3 : (4 * (c : Int) + (y : Int)) = (((4 * c + y : Nat)) : Int) := by omega
  have hpos := Nat.two_pow_pos (4 * c + y)
  have eb : b - 1 = (((2 ^ (4 * c + y) - 1 : Nat)) : Int) := by
    rw [hb, e3, e1]
    generalize 2 ^ (4 * c + y) = p at hpos ⊢
    omega
  refine s129 (sp_lct (d := d) ?_)
  rw [eb, e2]
  refine s129_6 (K _ ?_)
  rw [fx_shr_eq ⟨by omega, by omega⟩ ⟨by omega, by omega⟩, show ((4 * c + y : Nat) : Int) / ((2 ^ (2 : Int).toNat : Nat) : Int) = (c : Int) by
    rw [show ((2 ^ (2 : Int).toNat : Nat) : Int) = 4 by decide]
    omega, hb]
  have := sta_only hv (c := (c : Int)) (s := (y : Int)) ⟨by omega, by omega⟩ ⟨by omega, by omega⟩
  rw [Int.toNat_natCast, Int.toNat_natCast] at this
  exact this
end CUN
