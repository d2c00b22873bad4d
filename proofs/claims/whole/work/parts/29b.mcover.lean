/-! The reference's covers: sets of rules in order. -/
/-- some numbers as bits -/
def bqs : List Nat → Nat
  | [] => 0
  | r :: q => bqs q ||| 2 ^ r
theorem bqs_bit : ∀ {q : List Nat} {i : Nat}, (bqs q).testBit i = true ↔ i ∈ q
  | [], i => by simp [bqs]
  | r :: q, i => by
    rw [bqs, Nat.testBit_or, Nat.testBit_two_pow, Bool.or_eq_true, bqs_bit, List.mem_cons, decide_eq_true_eq]
    constructor
    · rintro (h | h)
      · exact Or.inr h
      · exact Or.inl h.symm
    · rintro (h | h)
      · exact Or.inr h.symm
      · exact Or.inl h
theorem bqs_lt {q : List Nat} (h : ∀ x ∈ q, x < 12) : bqs q < 4096 := by
  refine Nat.lt_pow_two_of_testBit (n := 12) _ (fun i hi => ?_)
  by_cases hb : (bqs q).testBit i = true
  · have := h i (bqs_bit.mp hb)
    omega
  · simpa using hb
theorem bqs_ne {r : Nat} {q : List Nat} : bqs (r :: q) ≠ 0 := fun e => by
  have := (bqs_bit (q := r :: q) (i := r)).mpr (List.mem_cons_self ..)
  rw [e, Nat.zero_testBit] at this
  cases this
/-- rules chosen, the last one first -/
def q_ok (n : Nat) (q : List Nat) : Prop := q.Pairwise (· > ·) ∧ ∀ x ∈ q, x < n
/-- the set behind: with the next rule at the top, or without the top one -/
def nmS (n : Nat) : List Nat → Nat → Nat
  | [], r => if r < n then bqs [r] else 0
  | s :: q, r => if r < n then bqs (r :: s :: q) else nmS n q (s + 1)
theorem nmS_lt {n r : Nat} {q : List Nat} (h : r < n) : nmS n q r = bqs (r :: q) := by
  cases q <;> simp [nmS, h]
theorem nmS_0 {n r : Nat} (h : n ≤ r) : nmS n [] r = 0 := by
  rw [nmS, if_neg (by omega)]
theorem nmS_up {n r s : Nat} {q : List Nat} (h : n ≤ r) : nmS n (s :: q) r = nmS n q (s + 1) := by
  rw [nmS, if_neg (by omega)]
section MCV
variable {kc : List va_E} {d : Nat} {M : fx_M} {Q : Option fx_V → fx_M → Prop} {Z : PZ}
theorem bit_fx {b i : Nat} (hb : b < 4096) (hi : i < 12) : fx_and (fx_shr (b : Int) (i : Int)) 1 = if b.testBit i = true then 1 else 0 := by
  have := fx_bit (x := (b : Int)) (c := (i : Int)) ⟨by omega, by omega⟩ ⟨by omega, by omega⟩
  simpa using this
theorem top_step {b i n : Nat} {r : Nat} {q : List Nat} (hq : q_ok n (r :: q)) (hn : n ≤ 12) (hb : b = bqs (r :: q)) (hi : i < n) {v : Int} (hv : r < i → v = r) : r < i + 1 → (if fx_and (fx_shr (b : Int) (i : Int)) 1 = 1 then (i : Int) else v) = r := by
  intro h
  have hl := bqs_lt (q := r :: q) (fun x hx => by have := hq.2 x hx; omega)
  rw [bit_fx (by omega) (by omega), hb]
  by_cases e : i = r
  · rw [if_pos (bqs_bit.mpr (by rw [e]; exact List.mem_cons_self ..)), if_pos rfl, e]
  · have hb0 : ¬ (bqs (r :: q)).testBit i = true := by
      rw [bqs_bit]
      intro hm
      rcases List.mem_cons.mp hm with e' | e'
      · exact e e'
      · have := (List.pairwise_cons.mp hq.1).1 i e'
        omega
    rw [if_neg hb0, if_neg (by decide)]
    exact hv (by omega)
theorem top_all {n : Nat} (hn : n ≤ 12) {r : Nat} {q : List Nat} (hq : q_ok n (r :: q)) (K : wp kc (d + 1) 415 68 [none, none, none, some (jI n), some (jI r), some (jI (bqs (r :: q))), none] [] M Q) : ∀ (t i : Nat) (v : Int), i + t = n → (r < i → v = r) → wp kc (d + 1) 415 108 [none, none, none, some (jI n), some (jI v), some (jI (bqs (r :: q))), some (jI i)] [] M Q
  | 0, i, v, hi, hv => by
    have hr := hq.2 r (List.mem_cons_self ..)
    rw [hv (by omega)]
    exact s415_108 ⟨⟨⟨by omega, by omega⟩, ⟨by omega, by omega⟩⟩, fun _ => K, fun h => by omega⟩
  | t + 1, i, v, hi, hv => by
    have hl := bqs_lt (q := r :: q) (fun x hx => by have := hq.2 x hx; omega)
    have nx := top_all hn hq K t (i + 1) (if fx_and (fx_shr (bqs (r :: q) : Int) (i : Int)) 1 = 1 then (i : Int) else v) (by omega) (top_step hq hn rfl (by omega) hv)
    rw [show ((i + 1 : Nat) : Int) = (i : Int) + 1 by omega] at nx
    refine s415_108 ⟨⟨⟨by omega, by omega⟩, ⟨by omega, by omega⟩⟩, fun h => by omega, fun _ => ⟨?_, nx⟩⟩
    rw [bit_fx hl (by omega)]
    split <;> exact ⟨by omega, by omega⟩
theorem bqs_clr {r : Nat} {q : List Nat} {n : Nat} (hn : n ≤ 12) (hq : q_ok n (r :: q)) : fx_and (bqs (r :: q) : Int) (fx_xor (fx_shl 1 (r : Int)) (-1)) = ((bqs q : Nat) : Int) := by
  have hr := hq.2 r (List.mem_cons_self ..)
  have hl := bqs_lt (q := r :: q) (fun x hx => by have := hq.2 x hx; omega)
  have hp : (2 : Nat) ^ r < 2147483648 := by
    have := Nat.pow_lt_pow_right (a := 2) (by decide) (show r < 31 by omega)
    omega
  rw [fx_shl_1 ⟨by omega, by omega⟩, Int.toNat_natCast]
  obtain ⟨g, h1, _, h3⟩ := and_not (a := bqs (r :: q)) (b := 2 ^ r) (by omega) hp
  rw [h1]
  have e : g = bqs q := Nat.eq_of_testBit_eq (fun i => by
    rw [h3, Nat.testBit_two_pow, Bool.eq_iff_iff, Bool.and_eq_true, bqs_bit, bqs_bit, List.mem_cons]
    constructor
    · rintro ⟨h | h, h2⟩
      · rw [h] at h2
        simp at h2
      · exact h
    · intro h
      have := (List.pairwise_cons.mp hq.1).1 i h
      exact ⟨Or.inr h, by simp; omega⟩)
  rw [e]
theorem bqs_or {r : Nat} {q : List Nat} (hr : r < 12) (hq : ∀ x ∈ q, x < 12) : fx_or (bqs q : Int) (fx_shl 1 (r : Int)) = ((bqs (r :: q) : Nat) : Int) := by
  have hl := bqs_lt hq
  have hp : (2 : Nat) ^ r < 2147483648 := by
    have := Nat.pow_lt_pow_right (a := 2) (by decide) (show r < 31 by omega)
    omega
  rw [fx_shl_1 ⟨by omega, by omega⟩, Int.toNat_natCast, fx_or_nat ⟨by omega, by omega⟩ ⟨Int.natCast_nonneg _, by omega⟩, Int.toNat_natCast, Int.toNat_natCast, bqs]
theorem ns_back {n : Nat} (hn : n ≤ 12) : ∀ (q : List Nat) (r : Nat), q_ok n (r :: q) → Q (some (jI (nmS n q (r + 1)))) M → wp kc (d + 1) 415 68 [none, none, none, some (jI n), some (jI r), some (jI (bqs (r :: q))), none] [] M Q
  | q, r, hq, K => by
    have hr := hq.2 r (List.mem_cons_self ..)
    have hl := bqs_lt (q := r :: q) (fun x hx => by have := hq.2 x hx; omega)
    have hne := bqs_ne (r := r) (q := q)
    have hq12 : ∀ x ∈ q, x < 12 := fun x hx => by have := hq.2 x (List.mem_cons_of_mem _ hx); omega
    refine s415_68 ?_
    rw [bqs_clr hn hq]
    refine ⟨⟨by omega, by omega⟩, fun h => by omega, fun _ => ⟨⟨⟨by omega, by omega⟩, ⟨by omega, by omega⟩⟩, fun h => ?_, fun h => ?_⟩⟩
    · cases q with
      | nil =>
        rw [nmS_0 (by omega)] at K
        have z : ∀ (t i : Nat) (v : Int), i + t = n → wp kc (d + 1) 415 108 [none, none, none, some (jI n), some (jI v), some (jI ((bqs [] : Nat) : Int)), some (jI i)] [] M Q := by
          intro t
          induction t with
          | zero =>
            intro i v hi
            refine s415_108 ⟨⟨⟨by omega, by omega⟩, ⟨by omega, by omega⟩⟩, fun _ => s415_68 ⟨⟨by rw [bqs]; omega, by rw [bqs]; omega⟩, fun _ => K, fun h => absurd rfl h⟩, fun h => by omega⟩
          | succ t ih =>
            intro i v hi
            have nx := ih (i + 1) (if fx_and (fx_shr ((bqs [] : Nat) : Int) (i : Int)) 1 = 1 then (i : Int) else v) (by omega)
            rw [show ((i + 1 : Nat) : Int) = (i : Int) + 1 by omega] at nx
            refine s415_108 ⟨⟨⟨by omega, by omega⟩, ⟨by omega, by omega⟩⟩, fun h => by omega, fun _ => ⟨?_, nx⟩⟩
            rw [bit_fx (by rw [bqs]; omega) (by omega)]
            split <;> exact ⟨by omega, by omega⟩
        exact z n 0 (-1) (by omega)
      | cons s q =>
        rw [nmS_up (by omega)] at K
        have hq' : q_ok n (s :: q) := ⟨(List.pairwise_cons.mp hq.1).2, fun x hx => hq.2 x (List.mem_cons_of_mem _ hx)⟩
        exact top_all hn hq' (ns_back hn q s hq' K) n 0 (-1) (by omega) (fun h => by omega)
    · rw [nmS_lt (by omega)] at K
      have e := bqs_or (r := r + 1) (q := q) (by omega) hq12
      rw [show ((r + 1 : Nat) : Int) = (r : Int) + 1 by omega] at e
      rw [e]
      exact K
termination_by q => q.length
theorem sp_nextSet {n : Nat} (hn : n ≤ 12) (h149 : M 149 0 = n) {r : Nat} {q : List Nat} (hq : q_ok n (r :: q)) {lg : Int} (hlg : lg = 0 ∨ lg = 1) (K : Q (some (jI (if lg = 1 then nmS n (r :: q) (r + 1) else nmS n q (r + 1)))) M) : wc kc (d + 1) 415 [jR 133, jI (bqs (r :: q)), jI lg] M Q := by
  have hr := hq.2 r (List.mem_cons_self ..)
  have hl := bqs_lt (q := r :: q) (fun x hx => by have := hq.2 x hx; omega)
  refine s415 ?_
  rw [h149]
  have z : ∀ (t i : Nat) (v : Int), i + t = n → (r < i → v = r) → wp kc (d + 1) 415 13 [none, some (jI (bqs (r :: q))), some (jI lg), some (jI n), some (jI v), some (jI i), none] [] M Q := by
    intro t
    induction t with
    | zero =>
      intro i v hi hv
      rw [hv (by omega)]
      refine s415_13 ⟨⟨⟨by omega, by omega⟩, ⟨by omega, by omega⟩⟩, fun _ => ⟨⟨by omega, by omega⟩, fun h0 => ?_, fun h0 => ⟨⟨⟨by omega, by omega⟩, ⟨by omega, by omega⟩⟩, fun h1 => ?_, fun h1 => ?_⟩⟩, fun h => by omega⟩
      · rw [if_neg (by omega)] at K
        exact ns_back hn q r hq K
      · rw [if_pos (by omega), nmS_up (by omega)] at K
        exact ns_back hn q r hq K
      · rw [if_pos (by omega), nmS_lt (by omega)] at K
        have e := bqs_or (r := r + 1) (q := r :: q) (by omega) (fun x hx => by have := hq.2 x hx; omega)
        rw [show ((r + 1 : Nat) : Int) = (r : Int) + 1 by omega] at e
        rw [e]
        exact K
    | succ t ih =>
      intro i v hi hv
      have nx := ih (i + 1) (if fx_and (fx_shr (bqs (r :: q) : Int) (i : Int)) 1 = 1 then (i : Int) else v) (by omega) (top_step hq hn rfl (by omega) hv)
      rw [show ((i + 1 : Nat) : Int) = (i : Int) + 1 by omega] at nx
      refine s415_13 ⟨⟨⟨by omega, by omega⟩, ⟨by omega, by omega⟩⟩, fun h => by omega, fun _ => ⟨?_, nx⟩⟩
      rw [bit_fx hl (by omega)]
      split <;> exact ⟨by omega, by omega⟩
  exact z n 0 (-1) (by omega) (fun h => by omega)
/-- the first set -/
theorem sp_firstSet {n : Nat} (hn : n ≤ 12) (h149 : M 149 0 = n) (K : Q (some (jI (nmS n [] 0))) M) : wc kc (d + 1) 415 [jR 133, jI 0, jI 1] M Q := by
  refine s415 ?_
  rw [h149]
  have z : ∀ (t i : Nat), i + t = n → wp kc (d + 1) 415 13 [none, some (jI 0), some (jI 1), some (jI n), some (jI (-1)), some (jI i), none] [] M Q := by
    intro t
    induction t with
    | zero =>
      intro i hi
      refine s415_13 ⟨⟨⟨by omega, by omega⟩, ⟨by omega, by omega⟩⟩, fun _ => ⟨⟨by omega, by omega⟩, fun h0 => by omega, fun h0 => ⟨⟨⟨by omega, by omega⟩, ⟨by omega, by omega⟩⟩, fun h1 => ?_, fun h1 => ?_⟩⟩, fun h => by omega⟩
      · rw [nmS_0 (by omega)] at K
        exact s415_68 ⟨⟨by omega, by omega⟩, fun _ => K, fun h => absurd rfl h⟩
      · rw [nmS_lt (by omega)] at K
        exact K
    | succ t ih =>
      intro i hi
      have nx := ih (i + 1) (by omega)
      rw [show ((i + 1 : Nat) : Int) = (i : Int) + 1 by omega] at nx
      have e0 : fx_and (fx_shr 0 (i : Int)) 1 = 0 := by
        have := bit_fx (b := 0) (i := i) (by omega) (by omega)
        rw [Nat.zero_testBit, if_neg (by decide)] at this
        exact this
      refine s415_13 ⟨⟨⟨by omega, by omega⟩, ⟨by omega, by omega⟩⟩, fun h => by omega, fun _ => ?_⟩
      rw [e0, if_neg (by decide)]
      exact ⟨⟨by omega, by omega⟩, nx⟩
  exact z n 0 (by omega)
/-- the masks stand -/
def mmk (M : fx_M) (Z : PZ) : Prop := ∀ (r : Nat) (R : PR), Z.2.2.2.1[r]? = some R → M 172 (r : Int) = ((nar R.2.2 : Nat) : Int)
theorem fm_in (ho : pz_ok Z) {r : Nat} {R : PR} (hR : Z.2.2.2.1[r]? = some R) : ∀ (t i : Nat) (M : fx_M), i + t = R.2.2.length → mz M 0 Z → M 172 (r : Int) = area (R.2.2.take i) → (∀ M', (∀ b j, ¬ (b = 172 ∧ j = (r : Int)) → M' b j = M b j) → M' 172 (r : Int) = ((nar R.2.2 : Nat) : Int) → wp kc (d + 1) 414 2 [some (jR 133), some (jI ((r : Int) + 1)), none] [] M' Q) → wp kc (d + 1) 414 21 [some (jR 133), some (jI r), some (jI i)] [] M Q
  | 0, i, M, hi, hz, h172, K => by
    have h12 := ho.2.2.2.2.2.2.1
    obtain ⟨hrl, e⟩ := List.getElem?_eq_some_iff.mp hR
    have hRm : R ∈ Z.2.2.2.1 := e ▸ List.getElem_mem hrl
    have hc9 := pr_c9 ho hRm
    have hok := ho.2.2.2.2.2.2.2.1 R hRm
    have h4l := hok.2.2.2.2.2.1
    have z3 := (hz.2.2.2.2.1 r R hR).2.2.1
    rw [Int.mul_zero, Int.zero_add] at z3
    refine s414_21 ?_
    rw [z3]
    refine ⟨⟨by omega, by omega⟩, ⟨⟨by omega, by omega⟩, ⟨by omega, by omega⟩⟩, fun _ => K M (fun _ _ _ => rfl) ?_, fun h => by omega⟩
    rw [h172, List.take_of_length_le (by omega)]
    exact (area_nar (fun c hc => by have := hc9 c hc; omega)).1
  | t + 1, i, M, hi, hz, h172, K => by
    have h12 := ho.2.2.2.2.2.2.1
    obtain ⟨hrl, e⟩ := List.getElem?_eq_some_iff.mp hR
    have hRm : R ∈ Z.2.2.2.1 := e ▸ List.getElem_mem hrl
    have hok := ho.2.2.2.2.2.2.2.1 R hRm
    have h4l := hok.2.2.2.2.2.1
    have hil : i < R.2.2.length := by omega
    have z3 := (hz.2.2.2.2.1 r R hR).2.2.1
    have z4 := (hz.2.2.2.2.1 r R hR).2.2.2 i _ (List.getElem?_eq_getElem hil)
    rw [Int.mul_zero, Int.zero_add] at z3 z4
    refine s414_21 ?_
    rw [z3, z4, h172]
    have ea : fx_or (area (R.2.2.take i)) (fx_shl 1 R.2.2[i]) = area (R.2.2.take (i + 1)) := by
      rw [List.take_succ_eq_append_getElem hil, area_app]
    rw [ea]
    have nx := fm_in ho hR t (i + 1) (fx_up M 172 (r : Int) (area (R.2.2.take (i + 1)))) (by omega) (mz_frM hz (fun b j h1 h2 => fx_up_na (by omega))) (by rw [fx_up_self]) (fun M' f1 f2 => K M' (fun b j hb => by rw [f1 b j hb, fx_up_ne hb]) f2)
    rw [show ((i + 1 : Nat) : Int) = (i : Int) + 1 by omega] at nx
    exact ⟨⟨by omega, by omega⟩, ⟨⟨by omega, by omega⟩, ⟨by omega, by omega⟩⟩, fun h => by omega, fun _ => ⟨⟨by omega, by omega⟩, ⟨by omega, by omega⟩, ⟨by omega, by omega⟩, nx⟩⟩
theorem fm_out (ho : pz_ok Z) : ∀ (t r : Nat) (M : fx_M), r + t = Z.2.2.2.1.length → mz M 0 Z → (∀ (s : Nat) (R : PR), s < r → Z.2.2.2.1[s]? = some R → M 172 (s : Int) = ((nar R.2.2 : Nat) : Int)) → (∀ M', (∀ b j, b ≠ 172 → M' b j = M b j) → mmk M' Z → Q none M') → wp kc (d + 1) 414 2 [some (jR 133), some (jI r), none] [] M Q
  | 0, r, M, hr, hz, h172, K => by
    have h12 := ho.2.2.2.2.2.2.1
    refine s414_2 ?_
    rw [hz.2.2.2.1]
    exact ⟨⟨⟨by omega, by omega⟩, ⟨by omega, by omega⟩⟩, fun _ => K M (fun _ _ _ => rfl) (fun s R hR => h172 s R (by have := (List.getElem?_eq_some_iff.mp hR).1; omega) hR), fun h => by omega⟩
  | t + 1, r, M, hr, hz, h172, K => by
    have h12 := ho.2.2.2.2.2.2.1
    have hrl : r < Z.2.2.2.1.length := by omega
    refine s414_2 ?_
    rw [hz.2.2.2.1]
    refine ⟨⟨⟨by omega, by omega⟩, ⟨by omega, by omega⟩⟩, fun h => by omega, fun _ => ⟨⟨by omega, by omega⟩, ?_⟩⟩
    refine fm_in ho (List.getElem?_eq_getElem hrl) Z.2.2.2.1[r].2.2.length 0 _ (by omega) (mz_frM hz (fun b j h1 h2 => fx_up_na (by omega))) (by rw [fx_up_self]; rfl) (fun M' f1 f2 => ?_)
    have nx := fm_out ho t (r + 1) M' (by omega) (mz_frM hz (fun b j h1 h2 => by rw [f1 b j (by omega), fx_up_na (by omega)])) (fun s R hs hR => by
      by_cases e : s = r
      · subst e
        rw [List.getElem?_eq_getElem hrl] at hR
        cases hR
        exact f2
      · rw [f1 _ _ (by omega), fx_up_nk (by omega)]
        exact h172 s R (by omega) hR) (fun M'' g1 g2 => K M'' (fun b j hb => by rw [g1 b j hb, f1 b j (by omega), fx_up_na hb]) g2)
    rw [show ((r + 1 : Nat) : Int) = (r : Int) + 1 by omega] at nx
    exact nx
theorem sp_findMasks (ho : pz_ok Z) (hz : mz M 0 Z) (K : ∀ M', (∀ b j, b ≠ 172 → M' b j = M b j) → mmk M' Z → Q none M') : wc kc (d + 1) 414 [jR 133] M Q :=
  s414 (fm_out ho Z.2.2.2.1.length 0 M (by omega) hz (fun s R hs => by omega) K)
/-- the mask of a rule -/
def mk1 (Z : PZ) (r : Nat) : Nat := nar (rl Z r).2.2
/-- the cells of some rules -/
def un1 (Z : PZ) : List Nat → Nat
  | [] => 0
  | r :: q => un1 Z q ||| mk1 Z r
theorem un1_bit {i : Nat} : ∀ {q : List Nat}, (un1 Z q).testBit i = true ↔ ∃ x ∈ q, (mk1 Z x).testBit i = true
  | [] => by simp [un1]
  | r :: q => by
    rw [un1, Nat.testBit_or, Bool.or_eq_true, un1_bit]
    constructor
    · rintro (⟨x, h1, h2⟩ | h)
      · exact ⟨x, List.mem_cons_of_mem _ h1, h2⟩
      · exact ⟨r, List.mem_cons_self .., h⟩
    · rintro ⟨x, h1, h2⟩
      rcases List.mem_cons.mp h1 with e | e
      · rw [e] at h2
        exact Or.inr h2
      · exact Or.inl ⟨x, e, h2⟩
/-- no two of the rules have a common cell -/
def dsj (Z : PZ) (q : List Nat) : Prop := ∀ x ∈ q, ∀ y ∈ q, x ≠ y → ∀ i, (mk1 Z x).testBit i = true → (mk1 Z y).testBit i = true → False
theorem mk1_of {r : Nat} {R : PR} (h : Z.2.2.2.1[r]? = some R) : mk1 Z r = nar R.2.2 := by
  unfold mk1
  rw [rl_of h]
theorem mk1_lt (ho : pz_ok Z) {r : Nat} (hr : r < Z.2.2.2.1.length) : mk1 Z r < 512 := by
  rw [mk1_of (List.getElem?_eq_getElem hr)]
  exact nar_lt (pr_c9 ho (List.getElem_mem hr))
theorem fx_and_n {a b : Nat} (ha : a < 4096) (hb : b < 4096) : fx_and (a : Int) (b : Int) = ((a &&& b : Nat) : Int) := by
  have h := Nat.and_le_left (n := a) (m := b)
  rw [fx_and_nat, show ((a : Int) % 4294967296).toNat = a by omega, show ((b : Int) % 4294967296).toNat = b by omega]
  exact fx_bmod (w := 32) (by omega)
theorem co_loop (ho : pz_ok Z) {r : Nat} {q : List Nat} (hq : q_ok Z.2.2.2.1.length (r :: q)) (hd : dsj Z q) (h149 : M 149 0 = Z.2.2.2.1.length) (hm : mmk M Z) (K : Q (some (jI (if mk1 Z r &&& un1 Z q = 0 then ((un1 Z (r :: q) : Nat) : Int) else -1))) M) : ∀ (t i v : Nat), i + t = Z.2.2.2.1.length → v < 512 → (∀ b, v.testBit b = true ↔ ∃ x ∈ r :: q, x < i ∧ (mk1 Z x).testBit b = true) → (r < i → mk1 Z r &&& un1 Z q = 0) → wp kc (d + 1) 416 4 [some (jR 133), some (jI (bqs (r :: q))), some (jI v), some (jI i)] [] M Q
  | 0, i, v, hi, hv, hb, hr0 => by
    have h12 := ho.2.2.2.2.2.2.1
    have hr := hq.2 r (List.mem_cons_self ..)
    refine s416_4 ?_
    rw [h149]
    refine ⟨⟨⟨by omega, by omega⟩, ⟨by omega, by omega⟩⟩, fun _ => ?_, fun h => by omega⟩
    rw [if_pos (hr0 (by omega))] at K
    have e : v = un1 Z (r :: q) := Nat.eq_of_testBit_eq (fun j => by
      rw [Bool.eq_iff_iff, hb, un1_bit]
      constructor
      · rintro ⟨x, h1, _, h3⟩
        exact ⟨x, h1, h3⟩
      · rintro ⟨x, h1, h3⟩
        exact ⟨x, h1, by have := hq.2 x h1; omega, h3⟩)
    rw [e]
    exact K
  | t + 1, i, v, hi, hv, hb, hr0 => by
    have h12 := ho.2.2.2.2.2.2.1
    have hr := hq.2 r (List.mem_cons_self ..)
    have hl := bqs_lt (q := r :: q) (fun x hx => by have := hq.2 x hx; omega)
    have hil : i < Z.2.2.2.1.length := by omega
    have em : M 172 (i : Int) = ((mk1 Z i : Nat) : Int) := by
      rw [mk1_of (List.getElem?_eq_getElem hil)]
      exact hm i _ (List.getElem?_eq_getElem hil)
    have hmi := mk1_lt ho hil
    refine s416_4 ?_
    rw [h149, bit_fx hl (by omega), em, fx_and_n (by omega) (by omega)]
    have hle := Nat.and_le_left (n := v) (m := mk1 Z i)
    have he2 : ((i + 1 : Nat) : Int) = (i : Int) + 1 := by omega
    by_cases hin : i ∈ r :: q
    · rw [if_pos (bqs_bit.mpr hin)]
      refine ⟨⟨⟨by omega, by omega⟩, ⟨by omega, by omega⟩⟩, fun h => by omega, fun _ => ⟨⟨by omega, by omega⟩, fun _ => ⟨⟨by omega, by omega⟩, ⟨by omega, by omega⟩, fun h0 => ⟨⟨by omega, by omega⟩, ?_⟩, fun h0 => ?_⟩, fun h => by omega⟩⟩
      · have h0' : v &&& mk1 Z i = 0 := by omega
        have hor : v ||| mk1 Z i < 512 := Nat.or_lt_two_pow (n := 9) hv hmi
        rw [fx_or_nat ⟨by omega, by omega⟩ ⟨by omega, by omega⟩, Int.toNat_natCast, Int.toNat_natCast]
        have nx := co_loop ho hq hd h149 hm K t (i + 1) (v ||| mk1 Z i) (by omega) hor (fun b => by
          rw [Nat.testBit_or, Bool.or_eq_true, hb]
          constructor
          · rintro (⟨x, h1, h2, h3⟩ | h)
            · exact ⟨x, h1, by omega, h3⟩
            · exact ⟨i, hin, by omega, h⟩
          · rintro ⟨x, h1, h2, h3⟩
            by_cases e : x = i
            · rw [e] at h3
              exact Or.inr h3
            · exact Or.inl ⟨x, h1, by omega, h3⟩) (fun hlt => by
          by_cases e : i = r
          · subst e
            have ev : v = un1 Z q := Nat.eq_of_testBit_eq (fun j => by
              rw [Bool.eq_iff_iff, hb, un1_bit]
              constructor
              · rintro ⟨x, h1, h2, h3⟩
                rcases List.mem_cons.mp h1 with e1 | e1
                · omega
                · exact ⟨x, e1, h3⟩
              · rintro ⟨x, h1, h3⟩
                exact ⟨x, List.mem_cons_of_mem _ h1, (List.pairwise_cons.mp hq.1).1 x h1, h3⟩)
            rw [← ev, Nat.and_comm]
            exact h0'
          · exact hr0 (by omega))
        rw [he2] at nx
        exact nx
      · by_cases e : i = r
        · subst e
          have ev : v = un1 Z q := Nat.eq_of_testBit_eq (fun j => by
            rw [Bool.eq_iff_iff, hb, un1_bit]
            constructor
            · rintro ⟨x, h1, h2, h3⟩
              rcases List.mem_cons.mp h1 with e1 | e1
              · omega
              · exact ⟨x, e1, h3⟩
            · rintro ⟨x, h1, h3⟩
              exact ⟨x, List.mem_cons_of_mem _ h1, (List.pairwise_cons.mp hq.1).1 x h1, h3⟩)
          rw [if_neg (by rw [← ev, Nat.and_comm]; omega)] at K
          exact K
        · exfalso
          have hiq : i ∈ q := by
            rcases List.mem_cons.mp hin with e1 | e1
            · exact absurd e1 e
            · exact e1
          have hir := (List.pairwise_cons.mp hq.1).1 i hiq
          obtain ⟨j, hj⟩ := Nat.exists_testBit_of_ne_zero (show v &&& mk1 Z i ≠ 0 by omega)
          rw [Nat.testBit_and, Bool.and_eq_true, hb] at hj
          obtain ⟨⟨x, h1, h2, h3⟩, h4⟩ := hj
          rcases List.mem_cons.mp h1 with e1 | e1
          · omega
          · exact hd x e1 i hiq (by omega) j h3 h4
    · rw [if_neg (fun h => hin (bqs_bit.mp h))]
      refine ⟨⟨⟨by omega, by omega⟩, ⟨by omega, by omega⟩⟩, fun h => by omega, fun _ => ⟨⟨by omega, by omega⟩, fun h => absurd rfl h, fun _ => ?_⟩⟩
      have hne : i ≠ r := fun e => hin (by rw [e]; exact List.mem_cons_self ..)
      have nx := co_loop ho hq hd h149 hm K t (i + 1) v (by omega) hv (fun b => by
        rw [hb]
        constructor
        · rintro ⟨x, h1, h2, h3⟩
          exact ⟨x, h1, by omega, h3⟩
        · rintro ⟨x, h1, h2, h3⟩
          have hx : x ≠ i := fun e => hin (by rw [← e]; exact h1)
          exact ⟨x, h1, by omega, h3⟩) (fun hlt => hr0 (by omega))
      rw [he2] at nx
      exact nx
theorem sp_cellsOf (ho : pz_ok Z) {r : Nat} {q : List Nat} (hq : q_ok Z.2.2.2.1.length (r :: q)) (hd : dsj Z q) (h149 : M 149 0 = Z.2.2.2.1.length) (hm : mmk M Z) (K : Q (some (jI (if mk1 Z r &&& un1 Z q = 0 then ((un1 Z (r :: q) : Nat) : Int) else -1))) M) : wc kc (d + 1) 416 [jR 133, jI (bqs (r :: q))] M Q :=
  s416 (co_loop ho hq hd h149 hm K Z.2.2.2.1.length 0 0 (by omega) (by omega) (fun b => by
    rw [Nat.zero_testBit]
    constructor
    · intro h
      cases h
    · rintro ⟨x, _, h2, _⟩
      omega) (fun h => by omega))
theorem ss_loop {n b : Nat} (hn : n ≤ 12) (hb : b < 4096) : ∀ (t i : Nat) (x : List Nat) (f : Int) (M : fx_M), i + t = n → M 149 0 = n → m_ok M → x.Pairwise (· < ·) → (∀ y ∈ x, i ≤ y ∧ y < n) → (∀ y, i ≤ y → y < n → (b.testBit y = true ↔ y ∈ x)) → (f = 0 ∨ f = 1) → Q none (m_app M (tCw (decide (f = 1)) x)) → wp kc (d + 3) 417 4 [some (jR 133), some (jI b), some (jI f), some (jI i)] [] M Q
  | 0, i, x, f, M, hi, h149, hO, hp, hx, hbx, hf, K => by
    have ex : x = [] := by
      cases x with
      | nil => rfl
      | cons y x =>
        have := hx y (List.mem_cons_self ..)
        omega
    subst ex
    refine s417_4 ?_
    rw [h149]
    refine ⟨⟨⟨by omega, by omega⟩, ⟨by omega, by omega⟩⟩, fun _ => sp_sayByte hO (s417_54 ?_), fun h => by omega⟩
    rw [tCw] at K
    exact K
  | t + 1, i, x, f, M, hi, h149, hO, hp, hx, hbx, hf, K => by
    refine s417_4 ?_
    rw [h149, bit_fx hb (by omega)]
    have he2 : ((i + 1 : Nat) : Int) = (i : Int) + 1 := by omega
    by_cases hin : b.testBit i = true
    · rw [if_pos hin]
      have hix := (hbx i (Nat.le_refl _) (by omega)).mp hin
      obtain ⟨x', ex⟩ : ∃ x', x = i :: x' := by
        cases x with
        | nil => cases hix
        | cons y x =>
          rcases List.mem_cons.mp hix with e | e
          · exact ⟨x, by rw [e]⟩
          · have h1 := (List.pairwise_cons.mp hp).1 i e
            have h2 := (hx y (List.mem_cons_self ..)).1
            omega
      subst ex
      rw [tCw] at K
      have go : ∀ N : fx_M, N 149 0 = n → m_ok N → Q none (m_app N (dgs (i : Int) ++ tCw false x')) → wc kc (d + 2) 256 [jR 133, jI (i : Int)] N (fun v M1 => wp kc (d + 3) 417 40 [some (jR 133), some (jI b), none, some (jI i)] (v.toList ++ []) M1 Q) := fun N hN1 hN2 KN => by
        refine sp_sayNumber hN2 (by omega) (by omega) (s417_40 ?_)
        have nx := ss_loop hn hb t (i + 1) x' 0 (m_app N (dgs (i : Int))) (by omega) (by rw [m_app_ne (by omega) (by decide)]; exact hN1) (m_ok_app hN2) (List.pairwise_cons.mp hp).2 (fun y hy => by
          have h1 := (List.pairwise_cons.mp hp).1 y hy
          have h2 := (hx y (List.mem_cons_of_mem _ hy)).2
          omega) (fun y h1 h2 => by
          rw [hbx y (by omega) h2, List.mem_cons]
          constructor
          · rintro (e | e)
            · omega
            · exact e
          · exact Or.inr) (Or.inl rfl) (by
          rw [m_app_app, show decide ((0 : Int) = 1) = false from rfl]
          exact KN)
        rw [he2] at nx
        exact nx
      refine ⟨⟨⟨by omega, by omega⟩, ⟨by omega, by omega⟩⟩, fun h => by omega, fun _ => ⟨⟨by omega, by omega⟩, fun _ => ⟨⟨by omega, by omega⟩, fun h1 => go M h149 hO ?_, fun h1 => sp_sayByte hO (s417_35 (go _ ?_ (m_ok_put hO) ?_))⟩, fun h => by omega⟩⟩
      · rw [show decide (f = 1) = true from decide_eq_true (by omega)] at K
        exact K
      · have : m_put M 43 = m_app M [43] := rfl
        rw [this, m_app_ne (by omega) (by decide)]
        exact h149
      · rw [show decide (f = 1) = false from decide_eq_false (by omega)] at K
        exact K
    · rw [if_neg hin]
      refine ⟨⟨⟨by omega, by omega⟩, ⟨by omega, by omega⟩⟩, fun h => by omega, fun _ => ⟨⟨by omega, by omega⟩, fun h => absurd rfl h, fun _ => ?_⟩⟩
      have hni : i ∉ x := fun h => hin ((hbx i (Nat.le_refl _) (by omega)).mpr h)
      have nx := ss_loop hn hb t (i + 1) x f M (by omega) h149 hO hp (fun y hy => by
        have h1 := hx y hy
        have h2 : y ≠ i := fun e => hni (by rw [← e]; exact hy)
        omega) (fun y h1 h2 => hbx y (by omega) h2) hf K
      rw [he2] at nx
      exact nx
theorem sp_saySet {n : Nat} (hn : n ≤ 12) (h149 : M 149 0 = n) (hO : m_ok M) {q : List Nat} (hq : q_ok n q) (K : Q none (m_app M (tCw true q.reverse))) : wc kc (d + 3) 417 [jR 133, jI (bqs q)] M Q :=
  s417 (ss_loop hn (bqs_lt (fun x hx => by have := hq.2 x hx; omega)) n 0 q.reverse 1 M (by omega) h149 hO (List.pairwise_reverse.mpr hq.1) (fun y hy => ⟨by omega, hq.2 y (List.mem_reverse.mp hy)⟩) (fun y _ _ => by rw [bqs_bit, List.mem_reverse]) (Or.inr rfl) K)
end MCV
