/-! The class's findTwo and findStep. -/
theorem bct9 : ∀ b : Fin 512, bct ((b : Nat) : Int) = ((popc (b : Nat) : Nat) : Int) := by decide +kernel
theorem popc_9 (b : Nat) : popc b ≤ 9 := by
  unfold popc
  refine Nat.le_trans (List.length_filter_le _ _) ?_
  simp
theorem sub_len {α : Type} : ∀ {l m : List α}, l.Nodup → (∀ x ∈ l, x ∈ m) → l.length ≤ m.length
  | [], m, _, _ => Nat.zero_le _
  | a :: l, m, hn, h => by
    obtain ⟨h1, h2⟩ := List.nodup_cons.mp hn
    obtain ⟨p, q, e⟩ := List.append_of_mem (h a (List.mem_cons_self ..))
    subst e
    have := sub_len (m := p ++ q) h2 (fun x hx => by
      have h3 := h x (List.mem_cons_of_mem _ hx)
      rcases List.mem_append.mp h3 with h4 | h4
      · exact List.mem_append_left _ h4
      · rcases List.mem_cons.mp h4 with e | h4
        · exact absurd (e ▸ hx) h1
        · exact List.mem_append_right _ h4)
    simp only [List.length_cons, List.length_append] at this ⊢
    omega
/-- a set of cells as bits has as many as the cells are -/
theorem popc_len {b : Nat} {l : List Int} (hn : l.Nodup) (hl : ∀ c ∈ l, 0 ≤ c ∧ c < 9) (h : ∀ i : Nat, i < 9 → (b.testBit i = true ↔ (i : Int) ∈ l)) : popc b = l.length := by
  have h1 : popc b ≤ l.length := by
    unfold popc
    have : (((List.range 9).filter b.testBit).map Int.ofNat).length ≤ l.length := sub_len (nodup_map (fun a b e => by have h : (a : Int) = (b : Int) := e; omega) (List.Pairwise.filter _ List.nodup_range)) (fun x hx => by
      obtain ⟨i, hi, rfl⟩ := List.mem_map.mp hx
      obtain ⟨i1, i2⟩ := List.mem_filter.mp hi
      exact (h i (List.mem_range.mp i1)).mp i2)
    rwa [List.length_map] at this
  have h2 : l.length ≤ popc b := by
    unfold popc
    have : (l.map Int.toNat).length ≤ ((List.range 9).filter b.testBit).length := sub_len (by
      unfold List.Nodup
      rw [List.pairwise_map]
      exact List.Pairwise.imp_of_mem (fun {a b} ha hb hab e => hab (by have := hl a ha; have := hl b hb; omega)) hn) (fun x hx => by
      obtain ⟨c, hc, rfl⟩ := List.mem_map.mp hx
      have hb := hl c hc
      refine List.mem_filter.mpr ⟨List.mem_range.mpr (by omega), (h c.toNat (by omega)).mpr ?_⟩
      rw [show ((c.toNat : Nat) : Int) = c by omega]
      exact hc)
    rwa [List.length_map] at this
  omega
theorem fCl_app {Z : PZ} {R : PR} {s : Option PR} {S : Nat → Nat} : ∀ {l m : List Int}, fCl Z R s S (l ++ m) = match fCl Z R s S l with
    | some x => some x
    | none => fCl Z R s S m
  | [], m => rfl
  | c :: l, m => by
    rw [List.cons_append, fCl, fCl]
    split
    · rfl
    · exact fCl_app
theorem fCl_none {Z : PZ} {R : PR} {s : Option PR} {S : Nat → Nat} : ∀ {l : List Int}, fCl Z R s S l = none → ∀ c ∈ l, ouH Z R s S c = none
  | [], _, c, hc => by cases hc
  | a :: l, h, c, hc => by
    rw [fCl] at h
    split at h
    · cases h
    · next hy =>
      rcases List.mem_cons.mp hc with e | hc
      · rw [e]
        exact hy
      · exact fCl_none h c hc
theorem fCl_filter {Z : PZ} {R : PR} {s : Option PR} {S : Nat → Nat} {p : Int → Bool} : ∀ {l : List Int}, (∀ c ∈ l, p c = false → ouH Z R s S c = none) → fCl Z R s S (l.filter p) = fCl Z R s S l
  | [], _ => rfl
  | a :: l, h => by
    have ih := fCl_filter (Z := Z) (R := R) (s := s) (S := S) (p := p) (l := l) (fun c hc => h c (List.mem_cons_of_mem _ hc))
    rw [List.filter_cons]
    cases hp : p a with
    | true =>
      rw [if_pos rfl, fCl, fCl, ih]
    | false =>
      rw [if_neg (by decide), ih]
      conv => rhs; rw [fCl, h a (List.mem_cons_self ..) hp]
/-- a long's nibbles -/
def nib (x : Int) (c : Nat) : Nat := bit4 (lbit x (4 * c)) (lbit x (4 * c + 1)) (lbit x (4 * c + 2)) (lbit x (4 * c + 3))
theorem nib_bit {x : Int} {c y : Nat} (hy : y < 4) : (nib x c).testBit y = lbit x (4 * c + y) := by
  have h := bit4_all (lbit x (4 * c)) (lbit x (4 * c + 1)) (lbit x (4 * c + 2)) (lbit x (4 * c + 3))
  have hy : y = 0 ∨ y = 1 ∨ y = 2 ∨ y = 3 := by omega
  unfold nib
  rcases hy with rfl | rfl | rfl | rfl
  · exact h.2.1
  · exact h.2.2.1
  · exact h.2.2.2.1
  · exact h.2.2.2.2
theorem nib_16 {x : Int} {c : Nat} : nib x c < 16 := (bit4_all _ _ _ _).1
theorem nib_sta {x : Int} (hx : fx_in64 x) (h : ∀ i : Nat, 40 ≤ i → i < 64 → lbit x i = false) : sta x (nib x) := ⟨hx, fun i hi => by
  by_cases h40 : i < 40
  · rw [nib_bit (by omega), show 4 * (i / 4) + i % 4 = i by omega]
    simp [h40]
  · rw [h i (by omega) hi]
    simp [h40]⟩
section CST
variable {L : Nat} {xs : Nat → Int32} {d : Nat} {Q : Option fx_V → fx_M → Prop} {Z : PZ} {S : Nat → Nat}
theorem fa_loop (ho : pz_ok Z) {M : fx_M} (hc : cz M 11 Z) {v : Int} {T : Nat → Nat} (hv : sta v T) (hT : ∀ c, c < 10 → T c < 16) {R : PR} {s : Option PR} {K : PR} {k : Nat} (hK : Z.2.2.2.1[k]? = some K) (hb : ∀ c ∈ K.2.2, ∀ y : Nat, y < 4 → ((T c.toNat).testBit y = true ↔ isOut Z R s S c y)) (K1 : ∀ c y, fCl Z R s S K.2.2 = some (c, y) → ∀ M', (∀ b j, ¬ (b = 31 ∧ (j = 5 ∨ j = 6)) → M' b j = M b j) → M' 31 5 = c → M' 31 6 = (y : Int) → Q (some (jI 1)) M') (K0 : fCl Z R s S K.2.2 = none → Q (some (jI 0)) M) : ∀ (t i : Nat), i + t = K.2.2.length → fCl Z R s S K.2.2 = fCl Z R s S (K.2.2.drop i) → wp (kcs L xs) (d + 3) 141 3 [some (jR 31), some (jL v), none, some (jI k), some (jI i), none] [] M Q := by
  obtain ⟨hRo, hr12⟩ := rule_in ho hK
  have h9 := pz_n ho
  have l4 := hRo.2.2.2.2.2.1
  obtain ⟨a1, a2, a3, a4, a5⟩ := hc.2.2.2.2.2.1 k K hK
  intro t
  induction t with
  | zero =>
    intro i hi he
    refine s141_3 ?_
    rw [show M 14 (k : Int) = K.2.2.length from a3]
    refine ⟨⟨by omega, by omega⟩, ⟨⟨by omega, by omega⟩, ⟨by omega, by omega⟩⟩, fun _ => K0 ?_, fun h => by omega⟩
    rw [he, List.drop_eq_nil_of_le (by omega)]
    rfl
  | succ t ih =>
    intro i hi he
    have hil : i < K.2.2.length := by omega
    have hmem := getD_mem hil
    have hcb := hRo.2.2.2.2.2.2.1 _ hmem
    obtain ⟨cn, ecn⟩ : ∃ cn : Nat, K.2.2.getD i 0 = (cn : Int) := ⟨(K.2.2.getD i 0).toNat, by omega⟩
    have e15 : M 15 (4 * (k : Int) + (i : Int)) = (cn : Int) := by
      have := a4 i (by omega)
      rw [show M 15 (4 * (k : Int) + (i : Int)) = K.2.2.getD i 9 from this, ← ecn, List.getD_eq_getElem?_getD, List.getD_eq_getElem?_getD, List.getElem?_eq_getElem hil]
      rfl
    have h16 := hT cn (by omega)
    have hgb : ∀ y : Nat, y < 4 → ((T cn).testBit y = true ↔ isOut Z R s S (K.2.2.getD i 0) y) := fun y hy => by
      have := hb _ hmem y hy
      rw [ecn, Int.toNat_natCast] at this
      rw [ecn]
      exact this
    have hh := ouH_bits h16 hgb
    have hd : fCl Z R s S (K.2.2.drop i) = match ouH Z R s S (K.2.2.getD i 0) with
      | some y => some (K.2.2.getD i 0, y)
      | none => fCl Z R s S (K.2.2.drop (i + 1)) := by
      rw [drop_consD hil, fCl]
      rfl
    refine s141_3 ?_
    rw [show M 14 (k : Int) = K.2.2.length from a3, e15]
    refine ⟨⟨by omega, by omega⟩, ⟨⟨by omega, by omega⟩, ⟨by omega, by omega⟩⟩, fun h => by omega, fun _ => ⟨⟨by omega, by omega⟩, sp_may hv ⟨by omega, by omega⟩ (by rw [Int.toNat_natCast]; exact h16) (s141_39 ?_)⟩⟩
    rw [Int.toNat_natCast]
    refine ⟨⟨by omega, by omega⟩, fun h0 => ?_, fun hne => sp_may hv ⟨by omega, by omega⟩ (by rw [Int.toNat_natCast]; exact h16) (s141_55 ?_)⟩
    · have nx := ih (i + 1) (by omega) (by rw [he, hd, hh.1 (by omega)])
      rw [show ((i + 1 : Nat) : Int) = (i : Int) + 1 by omega] at nx
      exact nx
    · rw [Int.toNat_natCast]
      refine sp_lowest (by omega) (by omega) (s141_58 (K1 (cn : Int) (lowb (T cn)) (by rw [he, hd, hh.2 (by omega), ecn]) _ (fun b j hb => ?_) ?_ ?_))
      · rw [fx_up_ne (by omega), fx_up_ne (by omega)]
      · rw [fx_up_nk (by decide), fx_up_self]
      · rw [fx_up_self]
theorem sp_findAmong (ho : pz_ok Z) {M : fx_M} (hc : cz M 11 Z) {v : Int} {T : Nat → Nat} (hv : sta v T) (hT : ∀ c, c < 10 → T c < 16) {R : PR} {s : Option PR} {K : PR} {k : Nat} (hK : Z.2.2.2.1[k]? = some K) (hb : ∀ c ∈ K.2.2, ∀ y : Nat, y < 4 → ((T c.toNat).testBit y = true ↔ isOut Z R s S c y)) (K1 : ∀ c y, fCl Z R s S K.2.2 = some (c, y) → ∀ M', (∀ b j, ¬ (b = 31 ∧ (j = 5 ∨ j = 6)) → M' b j = M b j) → M' 31 5 = c → M' 31 6 = (y : Int) → Q (some (jI 1)) M') (K0 : fCl Z R s S K.2.2 = none → Q (some (jI 0)) M) : wc (kcs L xs) (d + 3) 141 [jR 31, jL v, jI k] M Q :=
  s141 (fa_loop ho hc hv hT hK hb K1 K0 K.2.2.length 0 (by omega) (by rw [List.drop_zero]))
/-- what findStep of the class may change -/
def fS31 (M N : fx_M) : Prop := ∀ b j, ¬ (b = 31 ∧ (3 ≤ j ∧ j ≤ 6)) → N b j = M b j
theorem jn_len {R R2 : PR} : (jnC R (some R2)).length = R.2.2.length + (R2.2.2.filter fun c => !(R.2.2.contains c)).length := by
  unfold jnC
  rw [List.length_append]
theorem filt_all {α : Type} {p : α → Bool} : ∀ {l : List α}, (l.filter p).length = l.length ↔ ∀ x ∈ l, p x = true
  | [] => by simp
  | a :: l => by
    have ih := filt_all (p := p) (l := l)
    have hle := List.length_filter_le p l
    rw [List.filter_cons]
    cases hp : p a with
    | true =>
      rw [if_pos rfl, List.length_cons, List.length_cons]
      constructor
      · intro h x hx
        rcases List.mem_cons.mp hx with e | hx
        · rw [e]
          exact hp
        · exact ih.mp (by omega) x hx
      · intro h
        have := ih.mpr (fun x hx => h x (List.mem_cons_of_mem _ hx))
        omega
    | false =>
      rw [if_neg (by decide), List.length_cons]
      constructor
      · intro h
        omega
      · intro h
        have := h a (List.mem_cons_self ..)
        rw [hp] at this
        cases this
theorem c2_in (ho : pz_ok Z) {M : fx_M} (hc : ckn M 11 Z) (hs : s_ok Z S) {v : Int} (hv : sta v S) {R : PR} {r : Nat} (hR : Z.2.2.2.1[r]? = some R) (K1 : ∀ q R2 c y, fT2i Z S R r (Z.2.2.2.1.drop (r + 1)) (r + 1) = some (r, q, c, y) → Z.2.2.2.1[q]? = some R2 → ∀ M', fS31 M M' → M' 31 3 = (r : Int) → M' 31 4 = (q : Int) → M' 31 5 = c → M' 31 6 = (y : Int) → Q (some (jI 1)) M') (K0 : fT2i Z S R r (Z.2.2.2.1.drop (r + 1)) (r + 1) = none → wp (kcs L xs) (d + 13) 140 2 [some (jR 31), some (jL v), none, some (jI ((r : Int) + 1)), none, none, none, none] [] M Q) : ∀ (t q : Nat), q + t = Z.2.2.2.1.length → fT2i Z S R r (Z.2.2.2.1.drop (r + 1)) (r + 1) = fT2i Z S R r (Z.2.2.2.1.drop q) q → wp (kcs L xs) (d + 13) 140 18 [some (jR 31), some (jL v), none, some (jI r), some (jI q), none, none, none] [] M Q := by
  have h12 := ho.2.2.2.2.2.2.1
  have h9 := pz_n ho
  obtain ⟨hRo, hr12⟩ := rule_in ho hR
  obtain ⟨-, -, -, -, ra⟩ := hc.1.2.2.2.2.2.1 r R hR
  have hcR : ∀ c ∈ R.2.2, 0 ≤ c ∧ c < 31 := fun c h => by have := hRo.2.2.2.2.2.2.1 c h; omega
  have har := area_nar hcR
  have hn9 := nar_9 hRo h9.2
  intro t
  induction t with
  | zero =>
    intro q hq he
    refine s140_18 ?_
    rw [hc.1.2.2.2.2.1]
    refine ⟨⟨⟨by omega, by omega⟩, ⟨by omega, by omega⟩⟩, fun _ => K0 ?_, fun h => by omega⟩
    rw [he, List.drop_eq_nil_of_le (by omega)]
    rfl
  | succ t ih =>
    intro q hq he
    have hql : q < Z.2.2.2.1.length := by omega
    have hR2 := List.getElem?_eq_getElem hql
    generalize hgen : Z.2.2.2.1[q] = R2 at hR2
    obtain ⟨hR2o, hq12⟩ := rule_in ho hR2
    obtain ⟨-, -, -, -, qa⟩ := hc.1.2.2.2.2.2.1 q R2 hR2
    have hcR2 : ∀ c ∈ R2.2.2, 0 ≤ c ∧ c < 31 := fun c h => by have := hR2o.2.2.2.2.2.2.1 c h; omega
    have har2 := area_nar hcR2
    have hn92 := nar_9 hR2o h9.2
    have hd : fT2i Z S R r (Z.2.2.2.1.drop q) q = match (if neaB R R2 = true then fCl Z R (some R2) S (jnC R (some R2)) else none) with
      | some x => some (r, q, x)
      | none => fT2i Z S R r (Z.2.2.2.1.drop (q + 1)) (q + 1) := by
      rw [List.drop_eq_getElem_cons hql, hgen, fT2i]
      rfl
    have go : (if neaB R R2 = true then fCl Z R (some R2) S (jnC R (some R2)) else none) = none → wp (kcs L xs) (d + 13) 140 18 [some (jR 31), some (jL v), none, some (jI r), some (jI ((q : Int) + 1)), none, none, none] [] M Q := fun hn => by
      have nx := ih (q + 1) (by omega) (by rw [he, hd, hn])
      rw [show ((q + 1 : Nat) : Int) = (q : Int) + 1 by omega] at nx
      exact nx
    have e1 : M 16 (r : Int) = (nar R.2.2 : Nat) := by rw [← har.1]; exact ra
    have e2 : M 16 (q : Int) = (nar R2.2.2 : Nat) := by rw [← har2.1]; exact qa
    have hmem1 : ∀ i : Nat, (nar R.2.2).testBit i = true ↔ (i : Int) ∈ R.2.2 := fun i => by
      have := nar_mem (l := R.2.2) (c := (i : Int)) hcR (by omega)
      rwa [Int.toNat_natCast] at this
    have hmem2 : ∀ i : Nat, (nar R2.2.2).testBit i = true ↔ (i : Int) ∈ R2.2.2 := fun i => by
      have := nar_mem (l := R2.2.2) (c := (i : Int)) hcR2 (by omega)
      rwa [Int.toNat_natCast] at this
    have hClt : nar R.2.2 &&& nar R2.2.2 < 512 := Nat.lt_of_le_of_lt Nat.and_le_left hn9
    have hCbit : ∀ i : Nat, (nar R.2.2 &&& nar R2.2.2).testBit i = true ↔ (i : Int) ∈ R.2.2 ∧ (i : Int) ∈ R2.2.2 := fun i => by
      rw [Nat.testBit_and, Bool.and_eq_true, hmem1, hmem2]
    -- no common cell
    have hshare : nar R.2.2 &&& nar R2.2.2 = 0 ↔ ¬ (jnC R (some R2)).length < R.2.2.length + R2.2.2.length := by
      rw [jn_len]
      have hle := List.length_filter_le (fun c => !(R.2.2.contains c)) R2.2.2
      have hfa := filt_all (p := fun c => !(R.2.2.contains c)) (l := R2.2.2)
      constructor
      · intro h0 hlt
        have : (R2.2.2.filter fun c => !(R.2.2.contains c)).length = R2.2.2.length := hfa.mpr (fun c hc2 => by
          have hc0 := hcR2 c hc2
          have : ¬ c ∈ R.2.2 := fun hc1 => by
            have hb := (hCbit c.toNat).mpr ⟨by rw [show ((c.toNat : Nat) : Int) = c by omega]; exact hc1, by rw [show ((c.toNat : Nat) : Int) = c by omega]; exact hc2⟩
            rw [h0] at hb
            simp at hb
          simp [this])
        omega
      · intro hnl
        have hall := hfa.mp (by omega)
        apply Nat.eq_of_testBit_eq
        intro i
        rw [Nat.zero_testBit]
        cases hx : (nar R.2.2 &&& nar R2.2.2).testBit i with
        | false => rfl
        | true =>
          obtain ⟨h1, h2⟩ := (hCbit i).mp hx
          have := hall _ h2
          simp [h1] at this
    obtain ⟨j1, j2, j3⟩ := jnC_ok (s := some R2) (q := (q : Int)) ho hRo (Or.inr ⟨q, R2, rfl, rfl, hR2⟩)
    have hOlt : nar R.2.2 ||| nar R2.2.2 < 512 := Nat.or_lt_two_pow (n := 9) hn9 hn92
    have hpl : popc (nar R.2.2 ||| nar R2.2.2) = (jnC R (some R2)).length := popc_len j2 (fun c h => by have := j3 c h; omega) (fun i hi => by
      rw [Nat.testBit_or, Bool.or_eq_true, hmem1, hmem2]
      constructor
      · rintro (h | h)
        · exact jnC_mem1 h
        · exact jnC_mem2 h
      · exact jnC_or)
    refine s140_18 ?_
    rw [hc.1.2.2.2.2.1, e1, e2, fx_and_nn (by omega) (by omega), fx_or_nat ⟨by omega, by omega⟩ ⟨by omega, by omega⟩, Int.toNat_natCast, Int.toNat_natCast]
    refine ⟨⟨⟨by omega, by omega⟩, ⟨by omega, by omega⟩⟩, fun h => by omega, fun _ => ⟨⟨by omega, by omega⟩, ⟨by omega, by omega⟩, ⟨by omega, by omega⟩, fun h0 => ?_, fun hne => ⟨⟨by omega, by omega⟩, ⟨by omega, by omega⟩, sp_bitCount (s140_80 ?_)⟩⟩⟩
    · refine go ?_
      rw [if_neg]
      unfold neaB
      rw [decide_eq_false (hshare.mp (by omega))]
      simp
    · have hlt : (jnC R (some R2)).length < R.2.2.length + R2.2.2.length := Classical.byContradiction fun hn => hne (by have := hshare.mpr hn; omega)
      rw [show bct ((nar R.2.2 ||| nar R2.2.2 : Nat) : Int) = ((popc (nar R.2.2 ||| nar R2.2.2) : Nat) : Int) from bct9 ⟨_, hOlt⟩, hpl]
      refine ⟨⟨by omega, by omega⟩, fun h6 => go ?_, fun h6 => ?_⟩
      · rw [if_neg]
        unfold neaB
        rw [decide_eq_false (show ¬ (jnC R (some R2)).length ≤ 6 by omega)]
        simp
      · have hnea : neaB R R2 = true := by
          unfold neaB
          rw [decide_eq_true hlt, decide_eq_true (show (jnC R (some R2)).length ≤ 6 by omega)]
          rfl
        rw [if_pos hnea] at hd go
        have nj := sp_jointly (L := L) (xs := xs) (p := 11) (M := M) puz11 hc ho hR hR2 9 (d := d) (Q := fun u M1 => wp (kcs L xs) (d + 13) 140 99 [some (jR 31), some (jL v), none, some (jI r), some (jI q), none, none, none] (u.toList ++ [jL v]) M1 Q) (S := S) (x := v) (C := nar R.2.2 &&& nar R2.2.2) (popc_9 _) hClt (fun i hi => (hCbit i).mp hi) (fun c h1 h2 => Or.inl (by
          have hc0 := hcR c h1
          exact (hCbit c.toNat).mpr ⟨by rw [show ((c.toNat : Nat) : Int) = c by omega]; exact h1, by rw [show ((c.toNat : Nat) : Int) = c by omega]; exact h2⟩)) hs hv (fun y hy => s140_99 ?_)
        · exact nj
        · -- the symbols that no way has
          have hob : ∀ i : Nat, i < 64 → lbit (fx_land v (fx_lxor y (-1))) i = (lbit v i && !lbit y i) := fun i hi => by
            rw [lbit_land, lbit_not]
            simp [hi]
          have hot : sta (fx_land v (fx_lxor y (-1))) (nib (fx_land v (fx_lxor y (-1)))) := nib_sta (in64_land _ _) (fun i h1 h2 => by
            rw [hob i h2, hv.2 i h2]
            simp [show ¬ i < 40 by omega])
          have hisO : ∀ c ∈ jnC R (some R2), ∀ z : Nat, z < 4 → ((nib (fx_land v (fx_lxor y (-1))) c.toNat).testBit z = true ↔ isOut Z R (some R2) S c z) := fun c hcJ z hz => by
            have hcb := j3 c hcJ
            obtain ⟨cn, rfl⟩ : ∃ cn : Nat, c = (cn : Int) := ⟨c.toNat, by omega⟩
            rw [Int.toNat_natCast, nib_bit hz, hob _ (by omega), hv.2 _ (by omega), show (4 * cn + z) / 4 = cn by omega, show (4 * cn + z) % 4 = z by omega, decide_eq_true (show 4 * cn + z < 40 by omega), Bool.true_and, Bool.and_eq_true, Bool.not_eq_true', ← Bool.not_eq_true, hy.2.2 cn z (by omega) hz]
            unfold isOut
            rw [Int.toNat_natCast]
            apply and_congr_right
            intro _
            apply not_congr
            constructor
            · rintro ⟨-, f, ⟨⟨h1, h2⟩, h3, h4⟩, h5⟩
              refine ⟨f, fun x hx => ?_, ⟨h2, fun R3 h => by cases h; exact h4⟩, h5⟩
              rcases jnC_or hx with h | h
              · exact h1 x h
              · exact h3 x h
            · rintro ⟨f, h1, h2, h3⟩
              exact ⟨jnC_or hcJ, f, ⟨⟨fun x hx => h1 x (jnC_mem1 hx), h2.1⟩, ⟨fun x hx => h1 x (jnC_mem2 hx), h2.2 R2 rfl⟩⟩, h3⟩
          have hsplit : fCl Z R (some R2) S (jnC R (some R2)) = match fCl Z R (some R2) S R.2.2 with
            | some x => some x
            | none => fCl Z R (some R2) S R2.2.2 := by
            unfold jnC
            rw [fCl_app]
            cases hx : fCl Z R (some R2) S R.2.2 with
            | some x => rfl
            | none =>
              show fCl Z R (some R2) S (R2.2.2.filter fun c => !(R.2.2.contains c)) = _
              exact fCl_filter (fun c hc2 hp => fCl_none hx c (by simpa using hp))
          refine sp_findAmong (d := d + 9) ho hc.1 hot (fun _ _ => nib_16) hR (fun c h z hz => hisO c (jnC_mem1 h) z hz) (fun c z e M1 f1 a5 a6 => s140_113 ?_) (fun e => s140_113 ?_)
          · refine ⟨⟨by omega, by omega⟩, fun _ => K1 q R2 c z (by rw [he, hd, hsplit, e]) hR2 _ (fun b j hb => by rw [fx_up_ne (by omega), fx_up_ne (by omega)]; exact f1 b j (by omega)) (by rw [fx_up_nk (by decide), fx_up_self]) (by rw [fx_up_self]) (by rw [fx_up_nk (by decide), fx_up_nk (by decide)]; exact a5) (by rw [fx_up_nk (by decide), fx_up_nk (by decide)]; exact a6), fun h => by omega⟩
          · refine ⟨⟨by omega, by omega⟩, fun h => absurd rfl h, fun _ => sp_findAmong (d := d + 9) ho hc.1 hot (fun _ _ => nib_16) hR2 (fun c h z hz => hisO c (jnC_mem2 h) z hz) (fun c z e' M1 f1 a5 a6 => s140_124 ?_) (fun e' => s140_124 ?_)⟩
            · refine ⟨⟨by omega, by omega⟩, fun h => by omega, fun _ => K1 q R2 c z (by rw [he, hd, hsplit, e, e']) hR2 _ (fun b j hb => by rw [fx_up_ne (by omega), fx_up_ne (by omega)]; exact f1 b j (by omega)) (by rw [fx_up_nk (by decide), fx_up_self]) (by rw [fx_up_self]) (by rw [fx_up_nk (by decide), fx_up_nk (by decide)]; exact a5) (by rw [fx_up_nk (by decide), fx_up_nk (by decide)]; exact a6)⟩
            · exact ⟨⟨by omega, by omega⟩, fun _ => go (by rw [hsplit, e, e']), fun h => absurd rfl h⟩
theorem c2_out (ho : pz_ok Z) {M : fx_M} (hc : ckn M 11 Z) (hs : s_ok Z S) {v : Int} (hv : sta v S) (K1 : ∀ r q R R2 c y, fT2 Z S Z.2.2.2.1 0 = some (r, q, c, y) → Z.2.2.2.1[r]? = some R → Z.2.2.2.1[q]? = some R2 → ∀ M', fS31 M M' → M' 31 3 = (r : Int) → M' 31 4 = (q : Int) → M' 31 5 = c → M' 31 6 = (y : Int) → Q (some (jI 1)) M') (K0 : fT2 Z S Z.2.2.2.1 0 = none → Q (some (jI 0)) M) : ∀ (t r : Nat), r + t = Z.2.2.2.1.length → fT2 Z S Z.2.2.2.1 0 = fT2 Z S (Z.2.2.2.1.drop r) r → wp (kcs L xs) (d + 13) 140 2 [some (jR 31), some (jL v), none, some (jI r), none, none, none, none] [] M Q := by
  have h12 := ho.2.2.2.2.2.2.1
  intro t
  induction t with
  | zero =>
    intro r hr he
    refine s140_2 ?_
    rw [hc.1.2.2.2.2.1]
    refine ⟨⟨⟨by omega, by omega⟩, ⟨by omega, by omega⟩⟩, fun _ => K0 ?_, fun h => by omega⟩
    rw [he, List.drop_eq_nil_of_le (by omega)]
    rfl
  | succ t ih =>
    intro r hr he
    have hrl : r < Z.2.2.2.1.length := by omega
    have hR := List.getElem?_eq_getElem hrl
    have hd : fT2 Z S (Z.2.2.2.1.drop r) r = match fT2i Z S Z.2.2.2.1[r] r (Z.2.2.2.1.drop (r + 1)) (r + 1) with
      | some x => some x
      | none => fT2 Z S (Z.2.2.2.1.drop (r + 1)) (r + 1) := by
      rw [List.drop_eq_getElem_cons hrl, fT2]
      rfl
    refine s140_2 ?_
    rw [hc.1.2.2.2.2.1]
    refine ⟨⟨⟨by omega, by omega⟩, ⟨by omega, by omega⟩⟩, fun h => by omega, fun _ => ?_⟩
    have nx := c2_in (L := L) (xs := xs) (d := d) (Q := Q) ho hc hs hv hR (fun q R2 c y e hR2 M1 f1 a3 a4 a5 a6 => K1 r q _ R2 c y (by rw [he, hd, e]) hR hR2 M1 f1 a3 a4 a5 a6) (fun e => by
      have nx := ih (r + 1) (by omega) (by rw [he, hd, e])
      rw [show ((r + 1 : Nat) : Int) = (r : Int) + 1 by omega] at nx
      exact nx) (Z.2.2.2.1.length - (r + 1)) (r + 1) (by omega) rfl
    rw [show ((r + 1 : Nat) : Int) = (r : Int) + 1 by omega] at nx
    exact nx
theorem sp_cFindTwo (ho : pz_ok Z) {M : fx_M} (hc : ckn M 11 Z) (hs : s_ok Z S) {v : Int} (hv : sta v S) (K1 : ∀ r q R R2 c y, fT2 Z S Z.2.2.2.1 0 = some (r, q, c, y) → Z.2.2.2.1[r]? = some R → Z.2.2.2.1[q]? = some R2 → ∀ M', fS31 M M' → M' 31 3 = (r : Int) → M' 31 4 = (q : Int) → M' 31 5 = c → M' 31 6 = (y : Int) → Q (some (jI 1)) M') (K0 : fT2 Z S Z.2.2.2.1 0 = none → Q (some (jI 0)) M) : wc (kcs L xs) (d + 13) 140 [jR 31, jL v] M Q :=
  s140 (c2_out ho hc hs hv K1 K0 Z.2.2.2.1.length 0 (by omega) (by rw [List.drop_zero]))
end CST
