/-! count of the class. -/
theorem bct4 : ∀ m : Fin 16, bct ((m : Nat) : Int) = ((pop4 (m : Nat) : Nat) : Int) := by decide +kernel
theorem pop4_one : ∀ m : Fin 16, pop4 (m : Nat) ≤ 1 → (m : Nat) = 0 ∨ (m : Nat) = 1 ∨ (m : Nat) = 2 ∨ (m : Nat) = 4 ∨ (m : Nat) = 8 := by decide +kernel
theorem pop4_pow : ∀ y : Fin 4, pop4 (2 ^ (y : Nat)) = 1 := by decide +kernel
def opn (S : Nat → Nat) : Nat → Nat
  | 0 => 0
  | c + 1 => opn S c ||| (if 1 < pop4 (S c) then 2 ^ c else 0)
theorem opn_bit {S : Nat → Nat} {i : Nat} : ∀ {c : Nat}, (opn S c).testBit i = (decide (i < c) && decide (1 < pop4 (S i)))
  | 0 => by simp [opn]
  | c + 1 => by
    unfold opn
    rw [Nat.testBit_or, opn_bit]
    by_cases e : i = c
    · subst e
      split
      · next h => rw [pow_bit]; simp [h]
      · next h => simp [h]
    · have : (if 1 < pop4 (S c) then 2 ^ c else 0).testBit i = false := by
        split
        · rw [pow_bit]
          exact decide_eq_false e
        · simp
      rw [this]
      by_cases h : i < c
      · simp [h, show i < c + 1 by omega]
      · simp [h, show ¬ i < c + 1 by omega]
theorem opn_lt {S : Nat → Nat} : ∀ {c : Nat}, c ≤ 9 → opn S c < 512
  | 0, _ => by simp [opn]
  | c + 1, h => by
    unfold opn
    refine Nat.or_lt_two_pow (n := 9) (opn_lt (by omega)) ?_
    split
    · exact (low_pow ⟨c, by omega⟩).2.1
    · decide
theorem fx_not {b : Nat} (hb : b < 2147483648) : fx_xor (b : Int) (-1) = -(b : Int) - 1 := by
  unfold fx_xor
  have h1 : (Int32.ofInt (b : Int) ^^^ Int32.ofInt (-1)) = ~~~(Int32.ofInt (b : Int)) := by
    apply Int32.toBitVec_inj.mp
    rw [Int32.toBitVec_xor, Int32.toBitVec_not]
    have : (Int32.ofInt (-1)).toBitVec = BitVec.allOnes 32 := by decide
    rw [this, BitVec.xor_allOnes]
  rw [h1, Int32.toInt_not, Int32.toInt_ofInt]
  have h2 : ((b : Int)).bmod Int32.size = (b : Int) := by
    apply Int.bmod_eq_of_le
    · show -(((4294967296 : Nat) : Int) / 2) ≤ (b : Int)
      omega
    · show (b : Int) < (((4294967296 : Nat) : Int) + 1) / 2
      omega
  rw [h2]
  apply Int.bmod_eq_of_le
  · show -(((4294967296 : Nat) : Int) / 2) ≤ -(b : Int) - 1
    omega
  · show -(b : Int) - 1 < (((4294967296 : Nat) : Int) + 1) / 2
    omega
theorem and_not {a b : Nat} (ha : a < 2147483648) (hb : b < 2147483648) : ∃ g : Nat, fx_and (a : Int) (fx_xor (b : Int) (-1)) = (g : Int) ∧ g ≤ a ∧ ∀ i, g.testBit i = (a.testBit i && !b.testBit i) := by
  refine ⟨a &&& (2 ^ 32 - (b + 1)), ?_, Nat.and_le_left, fun i => ?_⟩
  · rw [fx_not hb, fx_and_nat]
    have e1 : ((a : Int) % 4294967296).toNat = a := by omega
    have e2 : ((-(b : Int) - 1) % 4294967296).toNat = 2 ^ 32 - (b + 1) := by
      simp only [Nat.reducePow]
      omega
    rw [e1, e2, fx_bmod (by have := @Nat.and_le_left a (2 ^ 32 - (b + 1)); simp only [Nat.reducePow] at this ⊢; omega)]
  · rw [Nat.testBit_and, Nat.testBit_two_pow_sub_succ (by simp only [Nat.reducePow]; omega)]
    by_cases hi : i < 32
    · simp [hi]
    · have : a.testBit i = false := Nat.testBit_lt_two_pow (Nat.lt_of_lt_of_le (show a < 2 ^ 32 by simp only [Nat.reducePow]; omega) (Nat.pow_le_pow_right (by decide) (by omega)))
      simp [this]
theorem bts_sub {C P : Nat} (h : ∀ i, P.testBit i = true → C.testBit i = true) : (bts C).filter P.testBit = bts P := by
  unfold bts
  rw [List.filter_filter]
  apply List.filter_congr
  intro i _
  cases hp : P.testBit i with
  | true => simp [h i hp]
  | false => simp
theorem bts_sub2 {C P G : Nat} (h : ∀ i, G.testBit i = (C.testBit i && !P.testBit i)) : (bts C).filter (fun i => !P.testBit i) = bts G := by
  unfold bts
  rw [List.filter_filter]
  apply List.filter_congr
  intro i _
  rw [h, Bool.and_comm]
theorem filt_part {α : Type} {p : α → Bool} : ∀ {l : List α}, (l.filter p).length + (l.filter (fun x => !p x)).length = l.length
  | [] => rfl
  | a :: l => by
    have := filt_part (p := p) (l := l)
    rw [List.filter_cons, List.filter_cons]
    cases p a <;> simp <;> omega
/-- a product with a limit -/
theorem lim_mul {t T c lim : Nat} (h : t = T ∨ (lim ≤ t ∧ lim ≤ T)) : t * (if c < lim then c else lim) = T * c ∨ (lim ≤ t * (if c < lim then c else lim) ∧ lim ≤ T * c) := by
  by_cases hc : c < lim
  · rw [if_pos hc]
    rcases h with h | ⟨h1, h2⟩
    · exact Or.inl (by rw [h])
    · by_cases h0 : c = 0
      · exact Or.inl (by rw [h0]; simp)
      · have hc1 : 1 ≤ c := by omega
        exact Or.inr ⟨Nat.le_trans h1 (Nat.le_mul_of_pos_right _ hc1), Nat.le_trans h2 (Nat.le_mul_of_pos_right _ hc1)⟩
  · rw [if_neg hc]
    by_cases hl : lim = 0
    · exact Or.inr ⟨by omega, by omega⟩
    · by_cases ht : t = 0
      · rcases h with h | ⟨h1, h2⟩
        · exact Or.inl (by rw [← h, ht]; simp)
        · omega
      · by_cases hT : T = 0
        · rcases h with h | ⟨h1, h2⟩ <;> omega
        · exact Or.inr ⟨Nat.le_mul_of_pos_left _ (by omega), Nat.le_trans (show lim ≤ c by omega) (Nat.le_mul_of_pos_left _ (by omega))⟩
theorem mnL_nat {c lim : Nat} : mnL (c : Int) (lim : Int) = ((if c < lim then c else lim : Nat) : Int) := by
  unfold mnL
  split <;> split <;> omega
section CCN
variable {L : Nat} {xs : Nat → Int32} {d : Nat} {Q : Option fx_V → fx_M → Prop} {Z : PZ}
/-- no cell is empty -/
def s_ne (Z : PZ) (S : Nat → Nat) : Prop := ∀ c : Nat, (c : Int) < Z.1 * Z.2.1 → S c ≠ 0
theorem opn_loop (ho : pz_ok Z) {S : Nat → Nat} {v lim : Int} {M : fx_M} (hs : s_ok Z S) (hx : sta v S) (hc : cz M 11 Z) (K : wp (kcs L xs) (d + 2) 89 80 [some (jR 29), some (jL v), none, some (jI lim), some (jI (opn S (Z.1 * Z.2.1).toNat : Nat)), some (jI 1), some (jI 0), none] [] M Q) : ∀ (t c : Nat), (c : Int) + t = Z.1 * Z.2.1 → wp (kcs L xs) (d + 2) 89 30 [some (jR 29), some (jL v), none, some (jI lim), some (jI (opn S c : Nat)), some (jI c), none, none] [] M Q := by
  have h9 := pz_n ho
  intro t
  induction t with
  | zero =>
    intro c hct
    refine s89_30 ?_
    rw [hc.2.2.1]
    have e : c = (Z.1 * Z.2.1).toNat := by omega
    subst e
    exact ⟨⟨⟨by omega, by omega⟩, ⟨by omega, by omega⟩⟩, fun _ => K, fun h => by omega⟩
  | succ t ih =>
    intro c hct
    have hS16 := s_ok_16 ho hs (c := c) (by omega)
    refine s89_30 ?_
    rw [hc.2.2.1]
    refine ⟨⟨⟨by omega, by omega⟩, ⟨by omega, by omega⟩⟩, fun h => by omega, fun _ => ?_⟩
    refine sp_may hx ⟨by omega, by omega⟩ (by rw [Int.toNat_natCast]; exact hS16) (s89_50 (sp_bitCount (s89_53 ?_)))
    rw [Int.toNat_natCast, show bct ((S c : Nat) : Int) = ((pop4 (S c) : Nat) : Int) from bct4 ⟨S c, hS16⟩]
    have hp : pop4 (S c) ≤ 4 := by
      unfold pop4
      refine Nat.le_trans (List.length_filter_le _ _) ?_
      simp
    refine ⟨⟨by omega, by omega⟩, ?_⟩
    have hol := opn_lt (S := S) (c := c) (by omega)
    have e : fx_or ((opn S c : Nat) : Int) (if 1 < ((pop4 (S c) : Nat) : Int) then (fx_shl 1 (c : Int) : Int) else 0) = ((opn S (c + 1) : Nat) : Int) := by
      rw [fx_shl_1 ⟨by omega, by omega⟩, Int.toNat_natCast]
      have hpw := (low_pow ⟨c, by omega⟩).2.1
      simp only at hpw
      have eo : opn S (c + 1) = opn S c ||| (if 1 < pop4 (S c) then 2 ^ c else 0) := rfl
      rw [eo]
      generalize opn S c = oc at hol ⊢
      by_cases h1 : 1 < pop4 (S c)
      · rw [if_pos (by omega), if_pos h1, fx_or_nat ⟨by omega, by omega⟩ ⟨Int.natCast_nonneg _, by omega⟩, Int.toNat_natCast, Int.toNat_natCast]
      · rw [if_neg (by omega), if_neg h1, fx_or_nat ⟨by omega, by omega⟩ ⟨by omega, by omega⟩]
        simp
    rw [e]
    have nx := ih (c + 1) (by omega)
    rw [show ((c + 1 : Nat) : Int) = (c : Int) + 1 by omega] at nx
    exact nx
theorem cnt_res {tot T N : Nat} {lim : Nat} (h1 : tot = T ∨ (lim ≤ tot ∧ lim ≤ T)) (e : T = N) : (if (lim : Int) < (tot : Int) then (lim : Int) else (tot : Int)) = mnL (N : Int) (lim : Int) := by
  unfold mnL
  split <;> split <;> omega
theorem prod_loop (ho : pz_ok Z) {S : Nat → Nat} {v : Int} {lim : Nat} {M : fx_M} (hs : s_ok Z S) (hx : sta v S) (hc : ckn M 11 Z) (hl : 1 ≤ lim ∧ lim ≤ 1048576) {N : Nat} (K : Q (some (jI (mnL (N : Int) (lim : Int)))) M) : ∀ (t k C tot T : Nat), k + t = 9 → C < 512 → (∀ i, C.testBit i = true → (i : Int) < Z.1 * Z.2.1) → (bts C).length + k ≤ 9 → (tot = T ∨ (lim ≤ tot ∧ lim ≤ T)) → T * cL Z S (bts C) = N → tot ≤ 4 ^ (9 - (bts C).length) → wp (kcs L xs) (d + 13) 89 80 [some (jR 29), some (jL v), none, some (jI lim), some (jI C), some (jI tot), some (jI k), none] [] M Q := by
  have h9 := pz_n ho
  intro t
  induction t with
  | zero =>
    intro k C tot T hk hC hCn hlk htT hN htot
    have hp4 : 4 ^ (9 - (bts C).length) ≤ 4 ^ 9 := Nat.pow_le_pow_right (by decide) (by omega)
    have hp4 : tot ≤ 262144 := Nat.le_trans htot (Nat.le_trans hp4 (by decide))
    have e0 : bts C = [] := List.eq_nil_of_length_eq_zero (by omega)
    rw [e0] at hN
    refine s89_80 ⟨⟨by omega, by omega⟩, fun _ => ⟨⟨⟨by omega, by omega⟩, ⟨by omega, by omega⟩⟩, ?_⟩, fun h => by omega⟩
    rw [cnt_res (N := N) htT (by rw [← hN]; simp [cL])]
    exact K
  | succ t ih =>
    intro k C tot T hk hC hCn hlk htT hN htot
    have hp4 : 4 ^ (9 - (bts C).length) ≤ 4 ^ 9 := Nat.pow_le_pow_right (by decide) (by omega)
    have hp4 : tot ≤ 262144 := Nat.le_trans htot (Nat.le_trans hp4 (by decide))
    refine s89_80 ⟨⟨by omega, by omega⟩, fun h => by omega, fun _ => ⟨⟨by omega, by omega⟩, fun h0 => ⟨⟨⟨by omega, by omega⟩, ⟨by omega, by omega⟩⟩, ?_⟩, fun hne => ⟨⟨by omega, by omega⟩, fun h0 => ⟨⟨⟨by omega, by omega⟩, ⟨by omega, by omega⟩⟩, ?_⟩, fun hpos => ?_⟩⟩⟩
    · have e0 : C = 0 := by omega
      rw [e0, bts_zero] at hN
      rw [cnt_res (N := N) htT (by rw [← hN]; simp [cL])]
      exact K
    · have eT : T = 0 := by omega
      rw [cnt_res (N := N) htT (by rw [← hN, eT]; simp)]
      exact K
    · have hC0 : C ≠ 0 := by omega
      refine sp_partOf ho hC hC0 hc.1 (fun P hp hcl => s89_103 ?_)
      obtain ⟨hP1, hP2, hP3⟩ := hp
      have hPl : (bts P).length ≤ 9 := bts_len
      have hcp := cp_all (L := L) (xs := xs) ho (bts P).length P rfl hP1 (fun i hi => hCn i (hP2 i hi)) (d + 9 - (bts P).length) (fun v1 M1 => wp (kcs L xs) (d + 13) 89 115 [some (jR 29), some (jL v), none, some (jI lim), some (jI C), none, some (jI k), some (jI P)] (v1.toList ++ [jI tot]) M1 Q) S v lim M hs hx hc (by omega) (by omega) (s89_115 ?_)
      · rw [show d + 9 - (bts P).length + (bts P).length + 3 = d + 12 by omega] at hcp
        exact hcp
      · obtain ⟨G, eG, hGle, hG⟩ := and_not (a := C) (b := P) (by omega) (by omega)
        rw [eG, mnL_nat]
        have f1 := bts_sub hP2
        have f2 := bts_sub2 (C := C) (P := P) (G := G) hG
        have f3 := filt_part (p := P.testBit) (l := bts C)
        rw [f1, f2] at f3
        have hlow := lowb_b hC0 hC
        have hP0 : 1 ≤ (bts P).length := List.length_pos_of_mem (bts_mem.mpr ⟨hlow.1, hP3⟩)
        have hsp := cL_split (S := S) (q := P.testBit) ho (bts_nodup (C := C)) (fun R hR a ha b hb haR hbR => by
          obtain ⟨a9, aC⟩ := bts_mem.mp ha
          obtain ⟨b9, bC⟩ := bts_mem.mp hb
          have hcells := (rule_cells ho hR).1
          have na : (nar R.2.2).testBit a = true := by
            have := (nar_mem (l := R.2.2) (c := (a : Int)) (fun x hx => by have := hcells x hx; omega) (by omega)).mpr haR
            rwa [Int.toNat_natCast] at this
          have nb : (nar R.2.2).testBit b = true := by
            have := (nar_mem (l := R.2.2) (c := (b : Int)) (fun x hx => by have := hcells x hx; omega) (by omega)).mpr hbR
            rwa [Int.toNat_natCast] at this
          have key : ∀ x y : Nat, (nar R.2.2).testBit x = true → (nar R.2.2).testBit y = true → C.testBit y = true → P.testBit x = true → P.testBit y = true := fun x y nx ny cy px => hcl R hR (fun e => by
            have := congrArg (fun z => z.testBit x) e
            simp only [Nat.testBit_and, nx, px, Nat.zero_testBit] at this
            simp at this) y ny cy
          cases hpa : P.testBit a with
          | true => exact (key a b na nb bC hpa).symm
          | false =>
            cases hpb : P.testBit b with
            | false => rfl
            | true =>
              have := key b a nb na aC hpb
              rw [hpa] at this
              cases this)
        rw [f1, f2] at hsp
        have hcle := cL_le (Z := Z) (t := bts P) (S := S)
        have htot2 : tot * (if cL Z S (bts P) < lim then cL Z S (bts P) else lim) ≤ 4 ^ (9 - (bts G).length) := by
          have h1 : (if cL Z S (bts P) < lim then cL Z S (bts P) else lim) ≤ 4 ^ (bts P).length := by
            split
            · exact hcle
            · next h => exact Nat.le_trans (by omega) hcle
          have h2 := Nat.mul_le_mul htot h1
          rw [← Nat.pow_add, show 9 - (bts C).length + (bts P).length = 9 - (bts G).length by omega] at h2
          exact h2
        have nx := ih (k + 1) G (tot * (if cL Z S (bts P) < lim then cL Z S (bts P) else lim)) (T * cL Z S (bts P)) (by omega) (by omega) (fun i hi => hCn i (by rw [hG] at hi; exact (Bool.and_eq_true_iff.mp hi).1)) (by omega) (lim_mul htT) (by rw [Nat.mul_assoc, ← hsp]; exact hN) htot2
        rw [show ((k + 1 : Nat) : Int) = (k : Int) + 1 by omega, Int.natCast_mul] at nx
        exact nx
theorem sp_count (ho : pz_ok Z) {S : Nat → Nat} {v : Int} {lim : Nat} {M : fx_M} (hs : s_ok Z S) (hne : s_ne Z S) (hx : sta v S) (hc : ckn M 11 Z) (hl : 1 ≤ lim ∧ lim ≤ 1048576) (K : Q (some (jI (mnL ((ansS Z S).length : Nat) (lim : Int)))) M) : wc (kcs L xs) (d + 13) 89 [jR 29, jL v, jI lim] M Q := by
  have h9 := pz_n ho
  refine s89 ?_
  rw [hc.1.2.2.1, fx_shl_1 ⟨by omega, by omega⟩]
  have hpw : (2 : Nat) ^ (Z.1 * Z.2.1).toNat ≤ 2 ^ 9 := Nat.pow_le_pow_right (by decide) (by omega)
  have hpos : 0 < (2 : Nat) ^ (Z.1 * Z.2.1).toNat := Nat.pow_pos (by decide)
  simp only [Nat.reducePow] at hpw
  rw [show ((2 ^ (Z.1 * Z.2.1).toNat : Nat) : Int) - 1 = ((2 ^ (Z.1 * Z.2.1).toNat - 1 : Nat) : Int) by omega]
  refine sp_canMeet puz11 hc ho hs hx (by omega) (s89_19 ?_)
  unfold bI
  by_cases hcan : canA Z S (2 ^ (Z.1 * Z.2.1).toNat - 1) = true
  · rw [if_pos hcan]
    refine ⟨⟨by omega, by omega⟩, fun _ => ?_, fun h => by omega⟩
    have hE := canE_of ho (n := (Z.1 * Z.2.1).toNat) (by omega) hcan
    have h0 : opn S 0 = 0 := rfl
    have e0 : (0 : Int) = ((opn S 0 : Nat) : Int) := by rw [h0]; rfl
    have := opn_loop (L := L) (xs := xs) (d := d + 11) (Q := Q) ho (lim := (lim : Int)) hs hx hc.1 (prod_loop ho hs hx hc hl K 9 0 (opn S (Z.1 * Z.2.1).toNat) 1 1 (by omega) (opn_lt (by omega)) (fun i hi => by
      rw [opn_bit] at hi
      have := of_decide_eq_true (Bool.and_eq_true_iff.mp hi).1
      omega) (by have := bts_len (C := opn S (Z.1 * Z.2.1).toNat); omega) (Or.inl rfl) (by
      rw [Nat.one_mul]
      refine cL_ans ho hE (fun i hi => ?_) (fun i hi hn => ?_)
      · have h1 := (bts_mem.mp hi).2
        rw [opn_bit] at h1
        exact of_decide_eq_true (Bool.and_eq_true_iff.mp h1).1
      · have hS16 := s_ok_16 ho hs (c := i) (by omega)
        have hni : ¬ 1 < pop4 (S i) := fun h => hn (bts_mem.mpr ⟨by omega, by rw [opn_bit]; simp [hi, h]⟩)
        have hS0 := hne i (by omega)
        rcases pop4_one ⟨S i, hS16⟩ (by simp only; omega) with h | h | h | h | h
        · exact absurd h hS0
        · exact ⟨0, by omega, h⟩
        · exact ⟨1, by omega, h⟩
        · exact ⟨2, by omega, h⟩
        · exact ⟨3, by omega, h⟩) (Nat.pow_pos (by decide))) (Z.1 * Z.2.1).toNat 0 (by omega)
    exact this
  · rw [if_neg hcan]
    refine ⟨⟨by omega, by omega⟩, fun h => absurd rfl h, fun _ => ?_⟩
    have e : ansS Z S = [] := ansS_nil ho (by simpa using hcan)
    rw [e] at K
    have : mnL ((([] : List (List Int)).length : Nat) : Int) (lim : Int) = 0 := by
      unfold mnL
      rw [if_pos (by simp; omega)]
      rfl
    rw [this] at K
    exact K
end CCN
