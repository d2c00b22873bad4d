/-! Bits of a standing counted; cells that are settled. -/
theorem vL_add {S T : Nat → Nat} : ∀ n, vL (fun c => S c + T c) n = vL S n + vL T n
  | 0 => rfl
  | n + 1 => by
    unfold vL
    rw [vL_add n, Nat.mul_add]
    omega
theorem vL_sub {S T : Nat → Nat} : ∀ n, (∀ c, c < n → T c ≤ S c) → vL (fun c => S c - T c) n + vL T n = vL S n
  | 0, _ => rfl
  | n + 1, h => by
    have ih := vL_sub n (fun c hc => h c (by omega))
    have hn := h n (by omega)
    unfold vL
    have e : 2 ^ (4 * n) * (S n - T n) + 2 ^ (4 * n) * T n = 2 ^ (4 * n) * S n := by
      rw [← Nat.mul_add, Nat.sub_add_cancel hn]
    omega
theorem vL_cg {S T : Nat → Nat} : ∀ n, (∀ c, c < n → S c = T c) → vL S n = vL T n
  | 0, _ => rfl
  | n + 1, h => by
    unfold vL
    rw [vL_cg n (fun c hc => h c (by omega)), h n (by omega)]
theorem sta_mask {x : Int} {S : Nat → Nat} (h : sta x S) {m : Int} {k : Nat} (hm : ∀ i : Nat, i < 64 → lbit m i = k.testBit (i % 4)) : sta (fx_land x m) (fun c => S c &&& k) := ⟨in64_land _ _, fun i hi => by
  rw [lbit_land, h.2 i hi, hm i hi, Nat.testBit_and, Bool.and_assoc]⟩
theorem sta_sh {x : Int} {S : Nat → Nat} (h : sta x S) {s : Nat} (hs : 1 ≤ s ∧ s ≤ 3) {m : Int} {k : Nat} (hk : ∀ i : Nat, i < 4 → k.testBit i = true → i + s < 4) (hm : ∀ i : Nat, i < 64 → lbit m i = k.testBit (i % 4)) : sta (fx_land (fx_lushr x (s : Int)) m) (fun c => (S c >>> s) &&& k) := ⟨in64_land _ _, fun i hi => by
  rw [lbit_land, hm i hi, lbit_lushr _ ⟨by omega, by omega⟩, Int.toNat_natCast, Nat.testBit_and, Nat.testBit_shiftRight]
  by_cases hb : k.testBit (i % 4) = true
  · have h3 := hk (i % 4) (by omega) hb
    rw [hb, h.2 _ (by omega), show (i + s) / 4 = i / 4 by omega, show (i + s) % 4 = s + i % 4 by omega, Bool.and_true, Bool.and_true]
    congr 1
    apply decide_eq_decide.mpr
    omega
  · simp only [Bool.not_eq_true] at hb
    rw [hb, Bool.and_false, Bool.and_false, Bool.and_false]⟩
theorem lushr_nat {n s : Nat} (hn : n < 9223372036854775808) (hs : s < 64) : fx_lushr (n : Int) (s : Int) = ((n / 2 ^ s : Nat) : Int) := by
  have hle : n / 2 ^ s ≤ n := Nat.div_le_self _ _
  refine lbit_ext (in64_lushr _ _) ⟨by omega, by omega⟩ (fun i hi => ?_)
  rw [lbit_lushr _ ⟨by omega, by omega⟩, Int.toNat_natCast, lbit_nat (by omega), lbit_nat (by omega), Nat.testBit_div_two_pow, Nat.add_comm]
theorem m5_bit : ∀ i : Fin 64, lbit 6148914691236517205 (i : Nat) = (5 : Nat).testBit ((i : Nat) % 4) := by decide +kernel
theorem m3_bit : ∀ i : Fin 64, lbit 3689348814741910323 (i : Nat) = (3 : Nat).testBit ((i : Nat) % 4) := by decide +kernel
theorem mf_bit : ∀ i : Fin 64, lbit 1085102592571150095 (i : Nat) = decide ((i : Nat) % 8 < 4) := by decide +kernel
theorem nb_5 : ∀ m : Fin 16, ((m : Nat) >>> 1) &&& 5 ≤ (m : Nat) ∧ ((m : Nat) >>> 1) &&& 5 < 16 ∧ (((m : Nat) - (((m : Nat) >>> 1) &&& 5)) &&& 3) + ((((m : Nat) - (((m : Nat) >>> 1) &&& 5)) >>> 2) &&& 3) = pop4 (m : Nat) := by decide +kernel
theorem k5_b : ∀ i : Fin 4, (5 : Nat).testBit (i : Nat) = true → (i : Nat) + 1 < 4 := by decide
theorem k3_b : ∀ i : Fin 4, (3 : Nat).testBit (i : Nat) = true → (i : Nat) + 2 < 4 := by decide
/-- how many bits a standing has in its first cells -/
def pS (S : Nat → Nat) : Nat → Nat
  | 0 => 0
  | n + 1 => pS S n + pop4 (S n)
theorem pS_le {S : Nat → Nat} : ∀ n, pS S n ≤ 4 * n
  | 0 => by simp [pS]
  | n + 1 => by
    have := pS_le (S := S) n
    have h4 := pop4_le (S n)
    unfold pS
    omega
def lc1 (x : Int) : Int := x - fx_land (fx_lushr x 1) 6148914691236517205
def lc2 (x : Int) : Int := fx_land x 3689348814741910323 + fx_land (fx_lushr x 2) 3689348814741910323
def lc3 (x : Int) : Int := fx_land (x + fx_lushr x 4) 1085102592571150095
def lc4 (x : Int) : Int := x + fx_lushr x 8
def lc5 (x : Int) : Int := x + fx_lushr x 16
def lc6 (x : Int) : Int := fx_and (x + fx_lushr x 32) 127
def lct (x : Int) : Int := lc6 (lc5 (lc4 (lc3 (lc2 (lc1 x)))))
theorem lct_eq {x : Int} {S : Nat → Nat} (h : sta x S) (h16 : ∀ c, c < 10 → S c < 16) : lct x = (pS S 10 : Nat) := by
  have nb : ∀ c, c < 10 → ((S c >>> 1) &&& 5 ≤ S c ∧ (S c >>> 1) &&& 5 < 16 ∧ ((S c - ((S c >>> 1) &&& 5)) &&& 3) + (((S c - ((S c >>> 1) &&& 5)) >>> 2) &&& 3) = pop4 (S c)) := fun c hc => nb_5 ⟨S c, h16 c hc⟩
  have hx := sta_vL h h16
  have hg := sta_vL (sta_sh h (s := 1) ⟨by omega, by omega⟩ (k := 5) (fun i hi => k5_b ⟨i, hi⟩) (fun i hi => m5_bit ⟨i, hi⟩)) (fun c hc => (nb c hc).2.1)
  have e1 : lc1 x = ((vL (fun c => S c - ((S c >>> 1) &&& 5)) 10 : Nat) : Int) := by
    unfold lc1
    have hs := vL_sub (S := S) (T := fun c => (S c >>> 1) &&& 5) 10 (fun c hc => (nb c hc).1)
    have hg' : fx_land (fx_lushr x 1) 6148914691236517205 = ((vL (fun c => (S c >>> 1) &&& 5) 10 : Nat) : Int) := hg
    rw [hg']
    omega
  have n16 : ∀ c, c < 10 → S c - ((S c >>> 1) &&& 5) < 16 := fun c hc => by have := h16 c hc; omega
  have st1 := vL_sta (S := fun c => S c - ((S c >>> 1) &&& 5)) n16
  have l3 : ∀ (a : Nat), a &&& 3 < 16 := fun a => Nat.lt_of_le_of_lt Nat.and_le_right (by omega)
  have hb1 := sta_vL (sta_mask st1 (k := 3) (fun i hi => m3_bit ⟨i, hi⟩)) (fun c hc => l3 _)
  have hb2 := sta_vL (sta_sh st1 (s := 2) ⟨by omega, by omega⟩ (k := 3) (fun i hi => k3_b ⟨i, hi⟩) (fun i hi => m3_bit ⟨i, hi⟩)) (fun c hc => l3 _)
  have e2 : lc2 (lc1 x) = ((vL (fun c => pop4 (S c)) 10 : Nat) : Int) := by
    rw [e1]
    unfold lc2
    have hb2' : fx_land (fx_lushr ((vL (fun c => S c - ((S c >>> 1) &&& 5)) 10 : Nat) : Int) 2) 3689348814741910323 = ((vL (fun c => ((S c - ((S c >>> 1) &&& 5)) >>> 2) &&& 3) 10 : Nat) : Int) := hb2
    rw [hb1, hb2', ← vL_cg (S := fun c => ((S c - ((S c >>> 1) &&& 5)) &&& 3) + (((S c - ((S c >>> 1) &&& 5)) >>> 2) &&& 3)) 10 (fun c hc => (nb c hc).2.2), vL_add 10]
    omega
  have p4 : ∀ c, pop4 (S c) ≤ 4 := fun c => pop4_le _
  have q0 := p4 0
  have q1 := p4 1
  have q2 := p4 2
  have q3 := p4 3
  have q4 := p4 4
  have q5 := p4 5
  have q6 := p4 6
  have q7 := p4 7
  have q8 := p4 8
  have q9 := p4 9
  have vp : vL (fun c => pop4 (S c)) 10 = 68719476736 * pop4 (S 9) + (4294967296 * pop4 (S 8) + (268435456 * pop4 (S 7) + (16777216 * pop4 (S 6) + (1048576 * pop4 (S 5) + (65536 * pop4 (S 4) + (4096 * pop4 (S 3) + (256 * pop4 (S 2) + (16 * pop4 (S 1) + (1 * pop4 (S 0) + 0))))))))) := by
    simp only [vL, Nat.reduceMul, Nat.reducePow]
  have hlt : vL (fun c => pop4 (S c)) 10 < 9223372036854775808 := by omega
  obtain ⟨sf, hsf⟩ : ∃ f : Nat → Nat, ∀ c, f c = pop4 (S c) + (if c < 9 then pop4 (S (c + 1)) else 0) := ⟨_, fun _ => rfl⟩
  have sf8 : ∀ c, sf c ≤ 8 := fun c => by
    rw [hsf]
    have a := p4 c
    have b := p4 (c + 1)
    split <;> omega
  have f0 : sf 0 = pop4 (S 0) + pop4 (S 1) := by rw [hsf]; rfl
  have f1 : sf 1 = pop4 (S 1) + pop4 (S 2) := by rw [hsf]; rfl
  have f2 : sf 2 = pop4 (S 2) + pop4 (S 3) := by rw [hsf]; rfl
  have f3 : sf 3 = pop4 (S 3) + pop4 (S 4) := by rw [hsf]; rfl
  have f4 : sf 4 = pop4 (S 4) + pop4 (S 5) := by rw [hsf]; rfl
  have f5 : sf 5 = pop4 (S 5) + pop4 (S 6) := by rw [hsf]; rfl
  have f6 : sf 6 = pop4 (S 6) + pop4 (S 7) := by rw [hsf]; rfl
  have f7 : sf 7 = pop4 (S 7) + pop4 (S 8) := by rw [hsf]; rfl
  have f8 : sf 8 = pop4 (S 8) + pop4 (S 9) := by rw [hsf]; rfl
  have f9 : sf 9 = pop4 (S 9) := by rw [hsf]; rfl
  have e3a : lc2 (lc1 x) + fx_lushr (lc2 (lc1 x)) 4 = ((vL sf 10 : Nat) : Int) := by
    rw [e2, lushr_nat (s := 4) hlt (by omega), vp]
    have vs : vL sf 10 = 68719476736 * sf 9 + (4294967296 * sf 8 + (268435456 * sf 7 + (16777216 * sf 6 + (1048576 * sf 5 + (65536 * sf 4 + (4096 * sf 3 + (256 * sf 2 + (16 * sf 1 + (1 * sf 0 + 0))))))))) := by
      simp only [vL, Nat.reduceMul, Nat.reducePow]
    rw [vs]
    omega
  have st3 := vL_sta (S := sf) (fun c _ => by have := sf8 c; omega)
  have st4 : sta (fx_land ((vL sf 10 : Nat) : Int) 1085102592571150095) (fun c => if c % 2 = 0 then sf c else 0) := ⟨in64_land _ _, fun i hi => by
    have hm := mf_bit ⟨i, hi⟩
    simp only at hm
    rw [lbit_land, st3.2 i hi, hm]
    by_cases he : (i / 4) % 2 = 0
    · rw [if_pos he, show decide (i % 8 < 4) = true from decide_eq_true (by omega), Bool.and_true]
    · rw [if_neg he, show decide (i % 8 < 4) = false from decide_eq_false (by omega), Nat.zero_testBit, Bool.and_false, Bool.and_false]⟩
  have e3 : lc3 (lc2 (lc1 x)) = ((vL (fun c => if c % 2 = 0 then sf c else 0) 10 : Nat) : Int) := by
    unfold lc3
    rw [e3a]
    exact sta_vL st4 (fun c _ => by have := sf8 c; split <;> omega)
  have vt : vL (fun c => if c % 2 = 0 then sf c else 0) 10 = 4294967296 * sf 8 + (16777216 * sf 6 + (65536 * sf 4 + (256 * sf 2 + sf 0))) := by
    simp only [vL, Nat.reduceMul, Nat.reducePow, Nat.reduceMod]
    simp
    omega
  have b0 := sf8 0
  have b2 := sf8 2
  have b4 := sf8 4
  have b6 := sf8 6
  have b8 := sf8 8
  have ep : pS S 10 = sf 0 + sf 2 + sf 4 + sf 6 + sf 8 := by
    simp only [pS]
    omega
  unfold lct
  rw [e3, vt, ep]
  clear e3 e3a st3 st4 vt vp e1 e2 hb1 hb2 hg hx ep f0 f1 f2 f3 f4 f5 f6 f7 f8 f9 sf8 hsf hlt st1 n16 nb q0 q1 q2 q3 q4 q5 q6 q7 q8 q9 p4 l3 h h16
  generalize sf 0 = a0 at *
  generalize sf 2 = a2 at *
  generalize sf 4 = a4 at *
  generalize sf 6 = a6 at *
  generalize sf 8 = a8 at *
  generalize hC : 4294967296 * a8 + (16777216 * a6 + (65536 * a4 + (256 * a2 + a0))) = C
  have hC1 : C < 9223372036854775808 := by omega
  have d1 : lc4 (C : Int) = ((C + C / 256 : Nat) : Int) := by
    unfold lc4
    rw [lushr_nat (s := 8) hC1 (by omega)]
    omega
  have hD1 : C + C / 256 < 9223372036854775808 := by omega
  rw [d1]
  generalize hD : C + C / 256 = D at *
  have d2 : lc5 (D : Int) = ((D + D / 65536 : Nat) : Int) := by
    unfold lc5
    rw [lushr_nat (s := 16) hD1 (by omega)]
    omega
  have hE1 : D + D / 65536 < 9223372036854775808 := by omega
  rw [d2]
  generalize hE : D + D / 65536 = E at *
  unfold lc6
  rw [lushr_nat (s := 32) hE1 (by omega), fx_and_mask 7 (by decide) (by decide)]
  omega
theorem lct_pow : ∀ k : Fin 40, lct (((2 ^ (k : Nat) - 1 : Nat)) : Int) = ((k : Nat) : Int) := by decide +kernel
section LBC
variable {kc : List va_E} {d : Nat} {M : fx_M} {Q : Option fx_V → fx_M → Prop}
theorem sp_lct {x : Int} (K : Q (some (jI (lct x))) M) : wc kc (d + 1) 128 [jL x] M Q := s128 K
/-- the cells of one symbol alone -/
def s_al (S : Nat → Nat) : Nat → Nat := fun c => if S c &&& (S c - 1) = 0 then S c else 0
theorem any4 : ∀ m : Fin 16, ((m : Nat).testBit 0 || (m : Nat).testBit 1 || (m : Nat).testBit 2 || (m : Nat).testBit 3) = decide ((m : Nat) ≠ 0) := by decide +kernel
theorem sta_al {x : Int} {S : Nat → Nat} (h : sta x S) (h16 : ∀ c, c < 10 → S c < 16) (hne : ∀ c, c < 10 → S c ≠ 0) : sta (fx_land x (fx_lxor ((fx_land (fx_lor (fx_lor (fx_lor (fx_land x (x - 73300775185)) (fx_lushr (fx_land x (x - 73300775185)) 1)) (fx_lushr (fx_land x (x - 73300775185)) 2)) (fx_lushr (fx_land x (x - 73300775185)) 3)) 73300775185) * 15) (-1))) (s_al S) := by
  have hx := sta_vL h h16
  have e1 : x - 73300775185 = ((vL (fun c => S c - 1) 10 : Nat) : Int) := by
    have hs := vL_sub (S := S) (T := fun _ => 1) 10 (fun c hc => by have := hne c hc; omega)
    have h1 : vL (fun _ => 1) 10 = 73300775185 := by decide
    omega
  have st1 := vL_sta (S := fun c => S c - 1) (fun c hc => by have := h16 c hc; omega)
  have stm : sta (fx_land x (x - 73300775185)) (fun c => S c &&& (S c - 1)) := ⟨in64_land _ _, fun i hi => by
    rw [e1, lbit_land, h.2 i hi, st1.2 i hi, Nat.testBit_and]
    cases decide (i < 40) <;> simp⟩
  generalize fx_land x (x - 73300775185) = y at stm
  have m16 : ∀ c, c < 10 → S c &&& (S c - 1) < 16 := fun c hc => Nat.lt_of_le_of_lt Nat.and_le_left (h16 c hc)
  have stc : sta (fx_land (fx_lor (fx_lor (fx_lor y (fx_lushr y 1)) (fx_lushr y 2)) (fx_lushr y 3)) 73300775185) (fun c => if S c &&& (S c - 1) = 0 then 0 else 1) := ⟨in64_land _ _, fun i hi => by
    rw [lbit_land, lbit_lor, lbit_lor, lbit_lor, lbit_lushr _ ⟨by omega, by omega⟩, lbit_lushr _ ⟨by omega, by omega⟩, lbit_lushr _ ⟨by omega, by omega⟩, lbit_ones hi]
    show ((lbit y i || lbit y (i + 1) || lbit y (i + 2) || lbit y (i + 3)) && (decide (i < 40) && decide (i % 4 = 0))) = _
    by_cases h40 : i < 40
    · by_cases h4 : i % 4 = 0
      · have a := any4 ⟨S (i / 4) &&& (S (i / 4) - 1), m16 _ (by omega)⟩
        simp only at a
        rw [stm.2 i hi, stm.2 (i + 1) (by omega), stm.2 (i + 2) (by omega), stm.2 (i + 3) (by omega), show (i + 1) / 4 = i / 4 by omega, show (i + 2) / 4 = i / 4 by omega, show (i + 3) / 4 = i / 4 by omega, show (i + 1) % 4 = 1 by omega, show (i + 2) % 4 = 2 by omega, show (i + 3) % 4 = 3 by omega, h4, show decide (i < 40) = true from decide_eq_true h40, show decide (i + 1 < 40) = true from decide_eq_true (by omega), show decide (i + 2 < 40) = true from decide_eq_true (by omega), show decide (i + 3 < 40) = true from decide_eq_true (by omega), Bool.true_and, Bool.true_and, Bool.true_and, Bool.true_and, a]
        by_cases hz : S (i / 4) &&& (S (i / 4) - 1) = 0
        · rw [if_pos hz, hz]
          decide
        · rw [if_neg hz, show decide (S (i / 4) &&& (S (i / 4) - 1) ≠ 0) = true from decide_eq_true hz]
          decide
      · rw [show decide (i % 4 = 0) = false from decide_eq_false h4, Bool.and_false, Bool.and_false]
        symm
        rw [Bool.and_eq_false_iff]
        right
        split
        · exact Nat.zero_testBit _
        · have : ∀ k : Fin 4, (k : Nat) ≠ 0 → (1 : Nat).testBit (k : Nat) = false := by decide
          exact this ⟨i % 4, by omega⟩ h4
    · rw [show decide (i < 40) = false from decide_eq_false h40, Bool.false_and, Bool.and_false, Bool.false_and]⟩
  have hc := sta_vL stc (fun c _ => by split <;> omega)
  have e15 : fx_land (fx_lor (fx_lor (fx_lor y (fx_lushr y 1)) (fx_lushr y 2)) (fx_lushr y 3)) 73300775185 * 15 = ((vL (fun c => if S c &&& (S c - 1) = 0 then 0 else 15) 10 : Nat) : Int) := by
    rw [hc]
    have : ∀ n, vL (fun c => if S c &&& (S c - 1) = 0 then 0 else 15) n = 15 * vL (fun c => if S c &&& (S c - 1) = 0 then 0 else 1) n := by
      intro n
      induction n with
      | zero => rfl
      | succ n ih =>
        unfold vL
        rw [ih]
        by_cases hz : S n &&& (S n - 1) = 0
        · simp only [if_pos hz]
          omega
        · simp only [if_neg hz]
          omega
    rw [this 10]
    omega
  rw [e15]
  have st5 := vL_sta (S := fun c => if S c &&& (S c - 1) = 0 then 0 else 15) (fun c _ => by split <;> omega)
  refine ⟨in64_land _ _, fun i hi => ?_⟩
  rw [lbit_land, lbit_not, h.2 i hi, st5.2 i hi]
  unfold s_al
  by_cases h40 : i < 40
  · rw [show decide (i < 40) = true from decide_eq_true h40, show decide (i < 64) = true from decide_eq_true hi, Bool.true_and, Bool.true_and, Bool.true_and, Bool.true_and]
    by_cases hz : S (i / 4) &&& (S (i / 4) - 1) = 0
    · rw [if_pos hz, if_pos hz, Nat.zero_testBit, Bool.not_false, Bool.and_true]
    · rw [if_neg hz, if_neg hz, Nat.zero_testBit]
      have : ∀ k : Fin 4, (15 : Nat).testBit (k : Nat) = true := by decide
      rw [this ⟨i % 4, by omega⟩, Bool.not_true, Bool.and_false]
  · rw [show decide (i < 40) = false from decide_eq_false h40, Bool.false_and, Bool.false_and, Bool.false_and]
theorem sp_settled {x : Int} {S : Nat → Nat} (h : sta x S) (h16 : ∀ c, c < 10 → S c < 16) (hne : ∀ c, c < 10 → S c ≠ 0) (K : ∀ y, sta y (s_al S) → Q (some (jL y)) M) : wc kc (d + 1) 127 [jL x] M Q := s127 (K _ (sta_al h h16 hne))
end LBC
