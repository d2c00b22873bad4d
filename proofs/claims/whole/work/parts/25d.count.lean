/-! countPart, partOf, count of the class. -/
/-- the cells of a set -/
def bts (C : Nat) : List Nat := (List.range 9).filter C.testBit
theorem bts_all : ∀ C : Fin 512, (C : Nat) ≠ 0 → bts C = lowb C :: bts ((C : Nat) &&& ((C : Nat) - 1)) := by decide +kernel
theorem bts_cons {C : Nat} (h : C < 512) (h0 : C ≠ 0) : bts C = lowb C :: bts (C &&& (C - 1)) := bts_all ⟨C, h⟩ h0
theorem bts_zero : bts 0 = [] := by decide
theorem bts_mem {C c : Nat} : c ∈ bts C ↔ c < 9 ∧ C.testBit c = true := by
  unfold bts
  rw [List.mem_filter, List.mem_range]
theorem bts_nodup {C : Nat} : (bts C).Nodup := List.Pairwise.filter _ List.nodup_range
theorem bts_len {C : Nat} : (bts C).length ≤ 9 := by
  unfold bts
  refine Nat.le_trans (List.length_filter_le _ _) ?_
  simp
theorem filt_lt {α : Type} {p q : α → Bool} : ∀ {l : List α}, (∀ x ∈ l, p x = true → q x = true) → (∃ x ∈ l, q x = true ∧ p x = false) → (l.filter p).length < (l.filter q).length
  | [], _, h => by
    obtain ⟨x, hx, -⟩ := h
    cases hx
  | a :: l, h1, h2 => by
    have hle : ∀ {m : List α}, (∀ x ∈ m, p x = true → q x = true) → (m.filter p).length ≤ (m.filter q).length := fun {m} hm => by
      rw [← List.countP_eq_length_filter, ← List.countP_eq_length_filter]
      exact List.countP_mono_left hm
    have ht : ∀ x ∈ l, p x = true → q x = true := fun x hx => h1 x (List.mem_cons_of_mem _ hx)
    have ha := h1 a (List.mem_cons_self ..)
    obtain ⟨x, hx, hq, hp⟩ := h2
    rw [List.filter_cons, List.filter_cons]
    rcases List.mem_cons.mp hx with e | hx
    · subst e
      rw [hq, hp]
      have := hle ht
      simp
      omega
    · have := filt_lt ht ⟨x, hx, hq, hp⟩
      cases hpa : p a with
      | true =>
        rw [ha hpa]
        simp
        exact this
      | false =>
        cases q a with
        | true =>
          simp
          omega
        | false =>
          simp
          exact this
theorem bts_lt {C D : Nat} (h : ∀ i, i < 9 → C.testBit i = true → D.testBit i = true) (hC : C < 512) (hD : D < 512) (hne : C ≠ D) : (bts C).length < (bts D).length := by
  unfold bts
  refine filt_lt (fun x hx => h x (List.mem_range.mp hx)) ?_
  apply Classical.byContradiction
  intro hn
  apply hne
  apply Nat.eq_of_testBit_eq
  intro i
  by_cases hi : i < 9
  · cases hd : D.testBit i with
    | false =>
      cases hc : C.testBit i with
      | false => rfl
      | true =>
        have := h i hi hc
        rw [this] at hd
        cases hd
    | true =>
      cases hc : C.testBit i with
      | true => rfl
      | false => exact absurd ⟨i, List.mem_range.mpr hi, hd, hc⟩ hn
  · have h1 : (512 : Nat) ≤ 2 ^ i := Nat.pow_le_pow_right (n := 2) (i := 9) (by decide) (by omega)
    rw [Nat.testBit_lt_two_pow (Nat.lt_of_lt_of_le hC h1), Nat.testBit_lt_two_pow (Nat.lt_of_lt_of_le hD h1)]
theorem mnL_add {t f lim : Int} (h1 : t < lim) : t + mnL f (lim - t) = mnL (t + f) lim := by
  unfold mnL
  split <;> split <;> omega
theorem mnL_b {a lim : Int} (h : 0 ≤ a) (hl : 0 ≤ lim) : 0 ≤ mnL a lim ∧ mnL a lim ≤ lim ∧ mnL a lim ≤ a := by
  unfold mnL
  split <;> omega
section CCT
variable {L : Nat} {xs : Nat → Int32} {d : Nat} {Q : Option fx_V → fx_M → Prop} {Z : PZ}
/-- the sum of symbols from y on -/
def cLs (Z : PZ) (S : Nat → Nat) (c : Nat) (t : List Nat) : Nat → Nat
  | 0 => 0
  | k + 1 => (if (S c).testBit (3 - k) && canA Z (s_only S c (3 - k)) (2 ^ c) then cL Z (s_only S c (3 - k)) t else 0) + cLs Z S c t k
theorem cLs_4 {S : Nat → Nat} {c : Nat} {t : List Nat} : cL Z S (c :: t) = cLs Z S c t 4 := by
  rw [cL]
  simp only [cLs, List.map_cons, List.map_nil, List.sum_cons, List.sum_nil]
def cpSpec (L : Nat) (xs : Nat → Int32) (Z : PZ) (C : Nat) : Prop := ∀ (d : Nat) (Q : Option fx_V → fx_M → Prop) (S : Nat → Nat) (v lim : Int) (M : fx_M), s_ok Z S → sta v S → ckn M 11 Z → 1 ≤ lim → lim ≤ 1048576 → Q (some (jI (mnL (cL Z S (bts C) : Nat) lim))) M → wc (kcs L xs) (d + (bts C).length + 3) 91 [jR 29, jL v, jI C, jI lim] M Q
theorem cp_loop (ho : pz_ok Z) {C : Nat} (h0 : C ≠ 0) (hC : C < 512) (hCn : ∀ i, C.testBit i = true → (i : Int) < Z.1 * Z.2.1) (IH : cpSpec L xs Z (C &&& (C - 1))) {S : Nat → Nat} {v lim : Int} {M : fx_M} (hs : s_ok Z S) (hx : sta v S) (hc : ckn M 11 Z) (hl : 1 ≤ lim ∧ lim ≤ 1048576) (K : Q (some (jI (mnL (cL Z S (bts C) : Nat) lim))) M) : ∀ (k y s : Nat), y + k = 4 → s + cLs Z S (lowb C) (bts (C &&& (C - 1))) k = cL Z S (bts C) → wp (kcs L xs) (d + (bts C).length + 3) 91 18 [some (jR 29), some (jL v), none, some (jI C), some (jI lim), some (jI (lowb C : Nat)), some (jI (mnL (s : Nat) lim)), some (jI y), none, none] [] M Q := by
  have h9 := pz_n ho
  have hlow := lowb_b h0 hC
  have hrm := lowb_rm h0 hC
  have hln := hCn _ hlow.2.1
  have hbc := bts_cons hC h0
  intro k
  induction k with
  | zero =>
    intro y s hy he
    have hb := mnL_b (a := (s : Int)) (lim := lim) (by omega) (by omega)
    have he : s = cL Z S (bts C) := he
    rw [← he] at K
    exact s91_18 ⟨⟨by omega, by omega⟩, fun _ => K, fun h => by omega⟩
  | succ k ih =>
    intro y s hy he
    have hb := mnL_b (a := (s : Int)) (lim := lim) (by omega) (by omega)
    refine s91_18 ⟨⟨by omega, by omega⟩, fun h => by omega, fun _ => ⟨⟨⟨by omega, by omega⟩, ⟨by omega, by omega⟩⟩, fun hful => ?_, fun hnot => ?_⟩⟩
    · have e1 : mnL ((cL Z S (bts C) : Nat) : Int) lim = mnL (s : Int) lim := by
        unfold mnL at hful ⊢
        rw [if_neg (by omega), if_neg (by split at hful <;> omega)]
      rw [e1] at K
      exact K
    · have hes : mnL (s : Int) lim = s := by
        unfold mnL at hnot ⊢
        split at hnot
        · rw [if_pos (by omega)]
        · omega
      have hS16 := s_ok_16 ho hs (c := lowb C) (by omega)
      have ek : 3 - k = y := by omega
      rw [cLs, ek] at he
      have go : ∀ f : Nat, (if (S (lowb C)).testBit y && canA Z (s_only S (lowb C) y) (2 ^ lowb C) then cL Z (s_only S (lowb C) y) (bts (C &&& (C - 1))) else 0) = f → wp (kcs L xs) (d + (bts C).length + 3) 91 18 [some (jR 29), some (jL v), none, some (jI C), some (jI lim), some (jI (lowb C : Nat)), some (jI (mnL ((s : Int) + (f : Int)) lim)), some (jI ((y : Int) + 1)), none, none] [] M Q := fun f hf => by
        rw [hf] at he
        have nx := ih (y + 1) (s + f) (by omega) (by omega)
        rw [show ((y + 1 : Nat) : Int) = (y : Int) + 1 by omega, show ((s + f : Nat) : Int) = (s : Int) + (f : Int) by omega] at nx
        exact nx
      have go0 : (if (S (lowb C)).testBit y && canA Z (s_only S (lowb C) y) (2 ^ lowb C) then cL Z (s_only S (lowb C) y) (bts (C &&& (C - 1))) else 0) = 0 → wp (kcs L xs) (d + (bts C).length + 3) 91 18 [some (jR 29), some (jL v), none, some (jI C), some (jI lim), some (jI (lowb C : Nat)), some (jI (mnL (s : Int) lim)), some (jI ((y : Int) + 1)), none, none] [] M Q := fun hf => by
        have := go 0 hf
        rw [show (s : Int) + ((0 : Nat) : Int) = (s : Int) by omega] at this
        exact this
      refine sp_may hx ⟨by omega, by omega⟩ (by rw [Int.toNat_natCast]; exact hS16) (s91_37 ?_)
      rw [Int.toNat_natCast]
      have hbit := sm_bit ⟨S (lowb C), hS16⟩ ⟨y, by omega⟩
      simp only at hbit
      rw [hbit]
      by_cases hbt : (S (lowb C)).testBit y = true
      · rw [if_pos hbt]
        refine ⟨⟨by omega, by omega⟩, fun h => by omega, fun _ => ?_⟩
        have hysym : (y : Int) < Z.2.2.1 := by
          have := bit_lt ((hs (lowb C) (by omega)).1 hln) hbt
          have h1 := ho.2.2.2.2.1
          omega
        refine sp_only hx ⟨by omega, by omega⟩ ⟨by omega, by omega⟩ (fun w hw => s91_53 ?_)
        rw [Int.toNat_natCast, Int.toNat_natCast] at hw
        rw [fx_shl_1 ⟨by omega, by omega⟩, Int.toNat_natCast]
        have hs1 := s_only_ok hs hln hysym
        refine sp_canMeet puz11 hc ho hs1 hw (low_pow ⟨lowb C, hlow.1⟩).2.1 (s91_68 ?_)
        unfold bI
        by_cases hcan : canA Z (s_only S (lowb C) y) (2 ^ lowb C) = true
        · rw [if_pos hcan]
          refine ⟨⟨by omega, by omega⟩, fun h => by omega, fun _ => ?_⟩
          rw [hrm.1, hes]
          have := IH d (fun v1 M1 => wp (kcs L xs) (d + (bts C).length + 3) 91 89 [some (jR 29), some (jL v), none, some (jI C), some (jI lim), some (jI (lowb C : Nat)), none, some (jI (y : Int)), none, none] (v1.toList ++ [jI (s : Int)]) M1 Q) (s_only S (lowb C) y) w (lim - (s : Int)) M hs1 hw hc (by omega) (by omega) (s91_89 ?_)
          · have el : (bts C).length = (bts (C &&& (C - 1))).length + 1 := by rw [hbc]; rfl
            rw [show d + (bts (C &&& (C - 1))).length + 3 = d + (bts C).length + 2 by omega] at this
            exact this
          · rw [mnL_add (by omega)]
            exact go _ (by rw [hbt, hcan]; rfl)
        · rw [if_neg hcan]
          exact ⟨⟨by omega, by omega⟩, fun _ => go0 (by simp [hcan]), fun h => absurd rfl h⟩
      · rw [if_neg hbt]
        exact ⟨⟨by omega, by omega⟩, fun _ => go0 (by simp [hbt]), fun h => absurd rfl h⟩
theorem cp_all (ho : pz_ok Z) : ∀ (n C : Nat), (bts C).length = n → C < 512 → (∀ i, C.testBit i = true → (i : Int) < Z.1 * Z.2.1) → cpSpec L xs Z C := by
  intro n
  induction n with
  | zero =>
    intro C hn hC hCn d Q S v lim M hs hx hc h1 h2 K
    have h0 : C = 0 := Classical.byContradiction fun h0 => by
      rw [bts_cons hC h0] at hn
      simp at hn
    subst h0
    refine s91 ⟨⟨by omega, by omega⟩, fun h => absurd rfl h, fun _ => ?_⟩
    rw [bts_zero] at K
    have : mnL ((cL Z S [] : Nat) : Int) lim = 1 := by
      unfold mnL cL
      split <;> omega
    rw [this] at K
    exact K
  | succ n ih =>
    intro C hn hC hCn d Q S v lim M hs hx hc h1 h2 K
    have h0 : C ≠ 0 := fun h0 => by
      rw [h0, bts_zero] at hn
      simp at hn
    have hrm := lowb_rm h0 hC
    have hbc := bts_cons hC h0
    have IH := ih (C &&& (C - 1)) (by rw [hbc] at hn; simpa using hn) hrm.2.1 (fun i hi => hCn i (by
      rw [Nat.testBit_and] at hi
      exact (Bool.and_eq_true_iff.mp hi).1))
    refine s91 ⟨⟨by omega, by omega⟩, fun _ => ?_, fun h => by omega⟩
    refine sp_lowest h0 hC (s91_10 ?_)
    have := cp_loop (d := d) ho h0 hC hCn IH hs hx hc ⟨h1, h2⟩ K 4 0 0 (by omega) (by rw [Nat.zero_add, ← cLs_4, ← hbc])
    have e0 : mnL ((0 : Nat) : Int) lim = 0 := by
      unfold mnL
      split <;> omega
    rw [e0] at this
    exact this
/-- the part: closed under rules, within the open cells -/
def prt (Z : PZ) (C P : Nat) : Prop := P < 512 ∧ (∀ i, P.testBit i = true → C.testBit i = true) ∧ P.testBit (lowb C) = true
def clop (Z : PZ) (C P : Nat) : Prop := ∀ R ∈ Z.2.2.2.1, nar R.2.2 &&& P ≠ 0 → ∀ i, (nar R.2.2).testBit i = true → C.testBit i = true → P.testBit i = true
def clS (R : PR) (C P : Nat) : Nat := if nar R.2.2 &&& P = 0 then P else P ||| (nar R.2.2 &&& C)
theorem clS_sub {R : PR} {C P i : Nat} (h : P.testBit i = true) : (clS R C P).testBit i = true := by
  unfold clS
  split
  · exact h
  · rw [Nat.testBit_or, h]
    rfl
theorem clS_prt {R : PR} {C P : Nat} (hC : C < 512) (h : prt Z C P) : prt Z C (clS R C P) := by
  refine ⟨?_, fun i hi => ?_, clS_sub h.2.2⟩
  · unfold clS
    split
    · exact h.1
    · exact Nat.or_lt_two_pow (n := 9) h.1 (Nat.lt_of_le_of_lt Nat.and_le_right hC)
  · unfold clS at hi
    split at hi
    · exact h.2.1 i hi
    · rw [Nat.testBit_or, Nat.testBit_and] at hi
      rcases Bool.or_eq_true_iff.mp hi with h1 | h1
      · exact h.2.1 i h1
      · exact (Bool.and_eq_true_iff.mp h1).2
/-- one round over the rules from r on: grows, and closed if unchanged -/
theorem po_round (ho : pz_ok Z) {C : Nat} (hC : C < 512) {M : fx_M} (hz : cz M 11 Z) {v3 : Int} {B : Nat} (hB : B < 512) (K : ∀ P, prt Z C P → (∀ i, B.testBit i = true → P.testBit i = true) → (P = B → clop Z C P) → wp (kcs L xs) (d + 1) 90 19 [some (jR 29), some (jI C), some (jI P), some (jI v3), some (jI B), some (jI (Z.2.2.2.1.length : Nat))] [] M Q) : ∀ (t r : Nat) (P : Nat), r + t = Z.2.2.2.1.length → prt Z C P → (∀ i, B.testBit i = true → P.testBit i = true) → (P = B → ∀ (q : Nat) (R : PR), q < r → Z.2.2.2.1[q]? = some R → nar R.2.2 &&& P ≠ 0 → ∀ i, (nar R.2.2).testBit i = true → C.testBit i = true → P.testBit i = true) → wp (kcs L xs) (d + 1) 90 19 [some (jR 29), some (jI C), some (jI P), some (jI v3), some (jI B), some (jI r)] [] M Q := by
  have h9 := pz_n ho
  have h12 := ho.2.2.2.2.2.2.1
  intro t
  induction t with
  | zero =>
    intro r P hr hp hs hc
    have e : r = Z.2.2.2.1.length := by omega
    subst e
    exact K P hp hs (fun e R hR => by
      obtain ⟨q, hq, rfl⟩ := List.mem_iff_getElem.mp hR
      exact hc e q _ hq (List.getElem?_eq_getElem hq))
  | succ t ih =>
    intro r P hr hp hs hc
    have hrl : r < Z.2.2.2.1.length := by omega
    have hR := List.getElem?_eq_getElem hrl
    obtain ⟨-, -, -, -, a5⟩ := hz.2.2.2.2.2.1 r _ hR
    obtain ⟨hcl, -, -⟩ := rule_cells ho (List.getElem_mem hrl)
    have har := area_nar (l := (Z.2.2.2.1[r]).2.2) (fun c hc => by have := hcl c hc; omega)
    have hn9 : nar (Z.2.2.2.1[r]).2.2 < 512 := nar_9 (ho.2.2.2.2.2.2.2.1 _ (List.getElem_mem hrl)) h9.2
    have e1 : M 16 (r : Int) = (nar (Z.2.2.2.1[r]).2.2 : Nat) := by rw [← har.1]; exact a5
    have hp1 := hp.1
    refine s90_19 ?_
    rw [hz.2.2.2.2.1, e1, fx_and_nn (by omega) (by omega)]
    refine ⟨⟨⟨by omega, by omega⟩, ⟨by omega, by omega⟩⟩, fun h => by omega, fun _ => ⟨⟨by omega, by omega⟩, ?_, fun _ => ⟨by omega, by omega⟩, ?_⟩⟩
    · have : nar (Z.2.2.2.1[r]).2.2 &&& P < 512 := Nat.lt_of_le_of_lt Nat.and_le_left hn9
      exact ⟨by omega, by omega⟩
    have e2 : fx_or (P : Int) (if ((nar (Z.2.2.2.1[r]).2.2 &&& P : Nat) : Int) = 0 then (0 : Int) else fx_and ((nar (Z.2.2.2.1[r]).2.2 : Nat) : Int) (C : Int)) = ((clS Z.2.2.2.1[r] C P : Nat) : Int) := by
      unfold clS
      by_cases e0 : nar (Z.2.2.2.1[r]).2.2 &&& P = 0
      · rw [if_pos e0, if_pos (by omega), fx_or_nat ⟨by omega, by omega⟩ ⟨by omega, by omega⟩]
        simp
      · have hlt : nar (Z.2.2.2.1[r]).2.2 &&& C < 512 := Nat.lt_of_le_of_lt Nat.and_le_left hn9
        rw [if_neg e0, if_neg (by omega), fx_and_nn (by omega) (by omega), fx_or_nat ⟨by omega, by omega⟩ ⟨by omega, by omega⟩]
        simp
    rw [e2]
    have nx := ih (r + 1) (clS Z.2.2.2.1[r] C P) (by omega) (clS_prt hC hp) (fun i hi => clS_sub (hs i hi)) (fun e q R hq hRq hne i hi hci => by
      -- nothing has been added: P was B
      have eP : P = B := by
        apply Nat.eq_of_testBit_eq
        intro j
        cases hj : B.testBit j with
        | true => exact hs j hj
        | false =>
          cases hj2 : P.testBit j with
          | false => rfl
          | true =>
            have := clS_sub (R := Z.2.2.2.1[r]) (C := C) hj2
            rw [e, hj] at this
            cases this
      by_cases eq : q = r
      · subst eq
        rw [hR] at hRq
        cases hRq
        have hnP : nar (Z.2.2.2.1[q]).2.2 &&& P ≠ 0 := by
          rw [eP, ← e]
          exact hne
        unfold clS
        rw [if_neg hnP, Nat.testBit_or, Nat.testBit_and, hi, hci]
        simp
      · rw [e, ← eP] at hne ⊢
        exact hc eP q R (by omega) hRq hne i hi hci)
    rw [show ((r + 1 : Nat) : Int) = (r : Int) + 1 by omega] at nx
    exact nx
theorem po_loop (ho : pz_ok Z) {C : Nat} (hC : C < 512) (h0 : C ≠ 0) {M : fx_M} (hz : cz M 11 Z) (K : ∀ P, prt Z C P → clop Z C P → Q (some (jI (P : Nat))) M) : ∀ (t k : Nat) (P : Nat), k + t = 9 → prt Z C P → k < (bts P).length → wp (kcs L xs) (d + 1) 90 7 [some (jR 29), some (jI C), some (jI P), some (jI k), none, none] [] M Q := by
  have h12 := ho.2.2.2.2.2.2.1
  intro t
  induction t with
  | zero =>
    intro k P hk hp hl
    have := bts_len (C := P)
    omega
  | succ t ih =>
    intro k P hk hp hl
    refine s90_7 ⟨⟨by omega, by omega⟩, fun h => by omega, fun _ => ?_⟩
    have hp1 := hp.1
    refine po_round (B := P) ho hC hz hp.1 (fun P2 hp2 hs2 hc2 => ?_) Z.2.2.2.1.length 0 P (by omega) hp (fun i hi => hi) (fun _ q R hq => by omega)
    have hp21 := hp2.1
    refine s90_19 ?_
    rw [hz.2.2.2.2.1]
    refine ⟨⟨⟨by omega, by omega⟩, ⟨by omega, by omega⟩⟩, fun _ => ⟨⟨⟨by omega, by omega⟩, ⟨by omega, by omega⟩⟩, fun hne => ?_, fun he => ?_⟩, fun h => by omega⟩
    · have := bts_lt (fun i _ hi => hs2 i hi) hp.1 hp2.1 (fun e => hne (by rw [e]))
      have nx := ih (k + 1) P2 (by omega) hp2 (by omega)
      rw [show ((k + 1 : Nat) : Int) = (k : Int) + 1 by omega] at nx
      exact nx
    · exact K P2 hp2 (hc2 (by omega))
theorem low_neg : ∀ b : Fin 512, (b : Nat) ≠ 0 → fx_and ((b : Nat) : Int) (-((b : Nat) : Int)) = ((2 ^ lowb b : Nat) : Int) := by decide +kernel
theorem sp_partOf (ho : pz_ok Z) {C : Nat} (hC : C < 512) (h0 : C ≠ 0) {M : fx_M} (hz : cz M 11 Z) (K : ∀ P, prt Z C P → clop Z C P → Q (some (jI (P : Nat))) M) : wc (kcs L xs) (d + 1) 90 [jR 29, jI C] M Q := by
  have hlow := lowb_b h0 hC
  refine s90 ?_
  rw [low_neg ⟨C, hC⟩ h0]
  refine po_loop ho hC h0 hz K 9 0 (2 ^ lowb C) (by omega) ⟨(low_pow ⟨lowb C, hlow.1⟩).2.1, fun i hi => ?_, by rw [pow_bit]; exact decide_eq_true rfl⟩ ?_
  · rw [pow_bit] at hi
    rw [of_decide_eq_true hi]
    exact hlow.2.1
  · have : lowb C ∈ bts (2 ^ lowb C) := bts_mem.mpr ⟨hlow.1, by rw [pow_bit]; exact decide_eq_true rfl⟩
    exact List.length_pos_of_mem this
end CCT
