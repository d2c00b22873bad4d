/-! Bits of a standing counted; cells that are settled. -/
theorem vL_add {S T : Nat → Nat} : ∀ n, vL (fun c => S c + T c) n = vL S n + vL T n
  | 0 => rfl
  | n + 1 => by
    unfold vL
    rw [vL_add n, Nat.mul_add]
    omega
theorem vL_sub {S T : Nat → Nat} : ∀ n, (∀ c, c < n → T c ≤ S c) → vL (fun c => S c - T c) n + vL T n = vL S n
  | 0, _ => rfl
  | n + 1, h => by
    have ih := vL_sub n (fun c hc => h c (by omega))
    have hn := h n (by omega)
    unfold vL
    have e : 2 ^ (4 * n) * (S n - T n) + 2 ^ (4 * n) * T n = 2 ^ (4 * n) * S n := by
      rw [← Nat.mul_add, Nat.sub_add_cancel hn]
    omega
theorem vL_cg {S T : Nat → Nat} : ∀ n, (∀ c, c < n → S c = T c) → vL S n = vL T n
  | 0, _ => rfl
  | n + 1, h => by
    unfold vL
    rw [vL_cg n (fun c hc => h c (by omega)), h n (by omega)]
theorem sta_mask {x : Int} {S : Nat → Nat} (h : sta x S) {m : Int} {k : Nat} (hm : ∀ i : Nat, i < 64 → lbit m i = k.testBit (i % 4)) : sta (fx_land x m) (fun c => S c &&& k) := ⟨in64_land _ _, fun i hi => by
  rw [lbit_land, h.2 i hi, hm i hi, Nat.testBit_and, Bool.and_assoc]⟩
theorem sta_sh {x : Int} {S : Nat → Nat} (h : sta x S) {s : Nat} (hs : 1 ≤ s ∧ s ≤ 3) {m : Int} {k : Nat} (hk : ∀ i : Nat, i < 4 → k.testBit i = true → i + s < 4) (hm : ∀ i : Nat, i < 64 → lbit m i = k.testBit (i % 4)) : sta (fx_land (fx_lushr x (s : Int)) m) (fun c => (S c >>> s) &&& k) := ⟨in64_land _ _, fun i hi => by
  rw [lbit_land, hm i hi, lbit_lushr _ ⟨by omega, by omega⟩, Int.toNat_natCast, Nat.testBit_and, Nat.testBit_shiftRight]
  by_cases hb : k.testBit (i % 4) = true
  · have h3 := hk (i % 4) (by omega) hb
    rw [hb, h.2 _ (by omega), show (i + s) / 4 = i / 4 by omega, show (i + s) % 4 = s + i % 4 by omega, Bool.and_true, Bool.and_true]
    congr 1
    apply decide_eq_decide.mpr
    omega
  · simp only [Bool.not_eq_true] at hb
    rw [hb, Bool.and_false, Bool.and_false, Bool.and_false]⟩
theorem lushr_nat {n s : Nat} (hn : n < 9223372036854775808) (hs : s < 64) : fx_lushr (n : Int) (s : Int) = ((n / 2 ^ s : Nat) : Int) := by
  have hle : n / 2 ^ s ≤ n := Nat.div_le_self _ _
  have hlt : n / 2 ^ s < 9223372036854775808 := Nat.lt_of_le_of_lt hle hn
  have h0 : 0 ≤ ((n / 2 ^ s : Nat) : Int) := Int.natCast_nonneg _
  have h1 : ((n / 2 ^ s : Nat) : Int) ≤ (n : Int) := Int.ofNat_le.mpr hle
  refine lbit_ext (in64_lushr _ _) ⟨Int.le_trans (by decide) h0, Int.le_trans h1 (by omega)⟩ (fun i hi => ?_)
  rw [lbit_lushr _ ⟨by omega, by omega⟩, Int.toNat_natCast, lbit_nat (by omega), lbit_nat (Nat.lt_trans hlt (by decide)), Nat.testBit_div_two_pow, Nat.add_comm]
theorem lushr_k {n k m : Nat} {z : Int} (hz : z = (k : Int)) (hm : m = 2 ^ k) (hn : n < 9223372036854775808) (hk : k < 64) : fx_lushr (n : Int) z = ((n / m : Nat) : Int) := by
  subst hz hm
  exact lushr_nat hn hk
theorem m5_bit : ∀ i : Fin 64, lbit 6148914691236517205 (i : Nat) = (5 : Nat).testBit ((i : Nat) % 4) := by decide +kernel
theorem m3_bit : ∀ i : Fin 64, lbit 3689348814741910323 (i : Nat) = (3 : Nat).testBit ((i : Nat) % 4) := by decide +kernel
theorem mf_bit : ∀ i : Fin 64, lbit 1085102592571150095 (i : Nat) = decide ((i : Nat) % 8 < 4) := by decide +kernel
theorem nb_5 : ∀ m : Fin 16, ((m : Nat) >>> 1) &&& 5 ≤ (m : Nat) ∧ ((m : Nat) >>> 1) &&& 5 < 16 ∧ (((m : Nat) - (((m : Nat) >>> 1) &&& 5)) &&& 3) + ((((m : Nat) - (((m : Nat) >>> 1) &&& 5)) >>> 2) &&& 3) = pop4 (m : Nat) := by decide +kernel
theorem k5_b : ∀ i : Fin 4, (5 : Nat).testBit (i : Nat) = true → (i : Nat) + 1 < 4 := by decide
theorem k3_b : ∀ i : Fin 4, (3 : Nat).testBit (i : Nat) = true → (i : Nat) + 2 < 4 := by decide
/-- how many bits a standing has in its first cells -/
def pS (S : Nat → Nat) : Nat → Nat
  | 0 => 0
  | n + 1 => pS S n + pop4 (S n)
theorem pS_le {S : Nat → Nat} : ∀ n, pS S n ≤ 4 * n
  | 0 => by simp [pS]
  | n + 1 => by
    have := pS_le (S := S) n
    have h4 := pop4_le (S n)
    unfold pS
    omega
def lc1 (x : Int) : Int := x - fx_land (fx_lushr x 1) 6148914691236517205
def lc2 (x : Int) : Int := fx_land x 3689348814741910323 + fx_land (fx_lushr x 2) 3689348814741910323
def lc3 (x : Int) : Int := fx_land (x + fx_lushr x 4) 1085102592571150095
def lc4 (x : Int) : Int := x + fx_lushr x 8
def lc5 (x : Int) : Int := x + fx_lushr x 16
def lc6 (x : Int) : Int := fx_and (x + fx_lushr x 32) 127
def lct (x : Int) : Int := lc6 (lc5 (lc4 (lc3 (lc2 (lc1 x)))))
theorem lc_a {a0 a2 a4 a6 a8 : Nat} (b0 : a0 ≤ 8) (b2 : a2 ≤ 8) (b4 : a4 ≤ 8) (b6 : a6 ≤ 8) : (4294967296 * a8 + (16777216 * a6 + (65536 * a4 + (256 * a2 + a0)))) / 256 = 16777216 * a8 + 65536 * a6 + 256 * a4 + a2 := by omega
theorem lc_b {a0 a2 a4 a6 a8 : Nat} (b0 : a0 ≤ 16) (b2 : a2 ≤ 16) (b4 : a4 ≤ 16) (b6 : a6 ≤ 16) : (4294967296 * a8 + 16777216 * a6 + 65536 * a4 + 256 * a2 + a0) / 65536 = 65536 * a8 + 256 * a6 + a4 := by omega
theorem lc_c {a0 a2 a4 a6 a8 : Nat} (b0 : a0 ≤ 40) (b2 : a2 ≤ 40) (b4 : a4 ≤ 40) (b6 : a6 ≤ 40) : (4294967296 * a8 + 16777216 * a6 + 65536 * a4 + 256 * a2 + a0) / 4294967296 = a8 := by omega
theorem lc_d {a0 a2 a4 a6 a8 : Nat} (b0 : a0 ≤ 40) : (((4294967296 * a8 + 16777216 * a6 + 65536 * a4 + 256 * a2 + a0 : Nat)) : Int) % 128 = (a0 : Int) := by omega
theorem lc_e {p0 p1 p2 p3 p4 p5 p6 p7 p8 p9 : Nat} (b0 : p0 ≤ 4) : (68719476736 * p9 + (4294967296 * p8 + (268435456 * p7 + (16777216 * p6 + (1048576 * p5 + (65536 * p4 + (4096 * p3 + (256 * p2 + (16 * p1 + (1 * p0 + 0)))))))))) / 16 = 4294967296 * p9 + 268435456 * p8 + 16777216 * p7 + 1048576 * p6 + 65536 * p5 + 4096 * p4 + 256 * p3 + 16 * p2 + p1 := by omega
theorem vL_10 {f : Nat → Nat} : vL f 10 = 68719476736 * f 9 + (4294967296 * f 8 + (268435456 * f 7 + (16777216 * f 6 + (1048576 * f 5 + (65536 * f 4 + (4096 * f 3 + (256 * f 2 + (16 * f 1 + (1 * f 0 + 0))))))))) := by
  simp only [vL, Nat.reduceMul, Nat.reducePow]
theorem lc_f {p0 p1 p2 p3 p4 p5 p6 p7 p8 p9 : Nat} : ((68719476736 * p9 + (4294967296 * p8 + (268435456 * p7 + (16777216 * p6 + (1048576 * p5 + (65536 * p4 + (4096 * p3 + (256 * p2 + (16 * p1 + (1 * p0 + 0))))))))) : Nat) : Int) + ((4294967296 * p9 + 268435456 * p8 + 16777216 * p7 + 1048576 * p6 + 65536 * p5 + 4096 * p4 + 256 * p3 + 16 * p2 + p1 : Nat) : Int) = ((68719476736 * p9 + (4294967296 * (p8 + p9) + (268435456 * (p7 + p8) + (16777216 * (p6 + p7) + (1048576 * (p5 + p6) + (65536 * (p4 + p5) + (4096 * (p3 + p4) + (256 * (p2 + p3) + (16 * (p1 + p2) + (1 * (p0 + p1) + 0))))))))) : Nat) : Int) := by omega
theorem lc_g {p0 p1 p2 p3 p4 p5 p6 p7 p8 p9 : Nat} (b0 : p0 ≤ 4) (b1 : p1 ≤ 4) (b2 : p2 ≤ 4) (b3 : p3 ≤ 4) (b4 : p4 ≤ 4) (b5 : p5 ≤ 4) (b6 : p6 ≤ 4) (b7 : p7 ≤ 4) (b8 : p8 ≤ 4) (b9 : p9 ≤ 4) : 68719476736 * p9 + (4294967296 * p8 + (268435456 * p7 + (16777216 * p6 + (1048576 * p5 + (65536 * p4 + (4096 * p3 + (256 * p2 + (16 * p1 + (1 * p0 + 0))))))))) < 9223372036854775808 := by omega
theorem lc_h {a0 a2 a4 a6 a8 : Nat} : 68719476736 * 0 + (4294967296 * a8 + (268435456 * 0 + (16777216 * a6 + (1048576 * 0 + (65536 * a4 + (4096 * 0 + (256 * a2 + (16 * 0 + (1 * a0 + 0))))))))) = 4294967296 * a8 + (16777216 * a6 + (65536 * a4 + (256 * a2 + a0))) := by omega
theorem lc_i {p0 p1 p2 p3 p4 p5 p6 p7 p8 p9 : Nat} : 0 + p0 + p1 + p2 + p3 + p4 + p5 + p6 + p7 + p8 + p9 = (p0 + p1) + (p2 + p3) + (p4 + p5) + (p6 + p7) + (p8 + p9) := by omega
theorem lc_j {a0 a2 a4 a6 a8 : Nat} (b0 : a0 ≤ 8) (b2 : a2 ≤ 8) (b4 : a4 ≤ 8) (b6 : a6 ≤ 8) (b8 : a8 ≤ 8) : lc6 (lc5 (lc4 ((4294967296 * a8 + (16777216 * a6 + (65536 * a4 + (256 * a2 + a0))) : Nat) : Int))) = ((a0 + a2 + a4 + a6 + a8 : Nat) : Int) := by
  have hC1 : 4294967296 * a8 + (16777216 * a6 + (65536 * a4 + (256 * a2 + a0))) < 9223372036854775808 := by omega
  have d1 : lc4 ((4294967296 * a8 + (16777216 * a6 + (65536 * a4 + (256 * a2 + a0))) : Nat) : Int) = ((4294967296 * a8 + 16777216 * (a6 + a8) + 65536 * (a4 + a6) + 256 * (a2 + a4) + (a0 + a2) : Nat) : Int) := by
    unfold lc4
    rw [lushr_k (k := 8) (m := 256) (by decide) (by decide) hC1 (by omega), lc_a b0 b2 b4 b6]
    omega
  have hD1 : 4294967296 * a8 + 16777216 * (a6 + a8) + 65536 * (a4 + a6) + 256 * (a2 + a4) + (a0 + a2) < 9223372036854775808 := by omega
  rw [d1]
  have d2 : lc5 ((4294967296 * a8 + 16777216 * (a6 + a8) + 65536 * (a4 + a6) + 256 * (a2 + a4) + (a0 + a2) : Nat) : Int) = ((4294967296 * a8 + 16777216 * (a6 + a8) + 65536 * (a4 + a6 + a8) + 256 * (a2 + a4 + a6 + a8) + (a0 + a2 + a4 + a6) : Nat) : Int) := by
    unfold lc5
    rw [lushr_k (k := 16) (m := 65536) (by decide) (by decide) hD1 (by omega), lc_b (by omega) (by omega) (by omega) (by omega)]
    omega
  have hE1 : 4294967296 * a8 + 16777216 * (a6 + a8) + 65536 * (a4 + a6 + a8) + 256 * (a2 + a4 + a6 + a8) + (a0 + a2 + a4 + a6) < 9223372036854775808 := by omega
  rw [d2]
  unfold lc6
  rw [lushr_k (k := 32) (m := 4294967296) (by decide) (by decide) hE1 (by omega), lc_c (by omega) (by omega) (by omega) (by omega), fx_and_mask 7 (by decide) (by decide), show ((2 ^ 7 : Nat) : Int) = 128 by decide, show ((4294967296 * a8 + 16777216 * (a6 + a8) + 65536 * (a4 + a6 + a8) + 256 * (a2 + a4 + a6 + a8) + (a0 + a2 + a4 + a6) : Nat) : Int) + (a8 : Int) = ((4294967296 * a8 + 16777216 * (a6 + a8) + 65536 * (a4 + a6 + a8) + 256 * (a2 + a4 + a6 + a8) + (a0 + a2 + a4 + a6 + a8) : Nat) : Int) by omega, lc_d (by omega)]
theorem lct_eq {x : Int} {S : Nat → Nat} (h : sta x S) (h16 : ∀ c, c < 10 → S c < 16) : lct x = (pS S 10 : Nat) := by
  have nb : ∀ c, c < 10 → ((S c >>> 1) &&& 5 ≤ S c ∧ (S c >>> 1) &&& 5 < 16 ∧ ((S c - ((S c >>> 1) &&& 5)) &&& 3) + (((S c - ((S c >>> 1) &&& 5)) >>> 2) &&& 3) = pop4 (S c)) := fun c hc => nb_5 ⟨S c, h16 c hc⟩
  have hx := sta_vL h h16
  have hg := sta_vL (sta_sh h (s := 1) ⟨by omega, by omega⟩ (k := 5) (fun i hi => k5_b ⟨i, hi⟩) (fun i hi => m5_bit ⟨i, hi⟩)) (fun c hc => (nb c hc).2.1)
  have e1 : lc1 x = ((vL (fun c => S c - ((S c >>> 1) &&& 5)) 10 : Nat) : Int) := by
    unfold lc1
    have hs := vL_sub (S := S) (T := fun c => (S c >>> 1) &&& 5) 10 (fun c hc => (nb c hc).1)
    have hg' : fx_land (fx_lushr x 1) 6148914691236517205 = ((vL (fun c => (S c >>> 1) &&& 5) 10 : Nat) : Int) := hg
    rw [hg']
    omega
  have n16 : ∀ c, c < 10 → S c - ((S c >>> 1) &&& 5) < 16 := fun c hc => by have := h16 c hc; omega
  have st1 := vL_sta (S := fun c => S c - ((S c >>> 1) &&& 5)) n16
  have l3 : ∀ (a : Nat), a &&& 3 < 16 := fun a => Nat.lt_of_le_of_lt Nat.and_le_right (by omega)
  have hb1 := sta_vL (sta_mask st1 (k := 3) (fun i hi => m3_bit ⟨i, hi⟩)) (fun c hc => l3 _)
  have hb2 := sta_vL (sta_sh st1 (s := 2) ⟨by omega, by omega⟩ (k := 3) (fun i hi => k3_b ⟨i, hi⟩) (fun i hi => m3_bit ⟨i, hi⟩)) (fun c hc => l3 _)
  have e2 : lc2 (lc1 x) = ((vL (fun c => pop4 (S c)) 10 : Nat) : Int) := by
    rw [e1]
    unfold lc2
    have hb2' : fx_land (fx_lushr ((vL (fun c => S c - ((S c >>> 1) &&& 5)) 10 : Nat) : Int) 2) 3689348814741910323 = ((vL (fun c => ((S c - ((S c >>> 1) &&& 5)) >>> 2) &&& 3) 10 : Nat) : Int) := hb2
    rw [hb1, hb2', ← vL_cg (S := fun c => ((S c - ((S c >>> 1) &&& 5)) &&& 3) + (((S c - ((S c >>> 1) &&& 5)) >>> 2) &&& 3)) 10 (fun c hc => (nb c hc).2.2), vL_add 10]
    omega
  have p4 : ∀ c, pop4 (S c) ≤ 4 := fun c => pop4_le _
  have q0 := p4 0
  have q1 := p4 1
  have q2 := p4 2
  have q3 := p4 3
  have q4 := p4 4
  have q5 := p4 5
  have q6 := p4 6
  have q7 := p4 7
  have q8 := p4 8
  have q9 := p4 9
  have vp : vL (fun c => pop4 (S c)) 10 = 68719476736 * pop4 (S 9) + (4294967296 * pop4 (S 8) + (268435456 * pop4 (S 7) + (16777216 * pop4 (S 6) + (1048576 * pop4 (S 5) + (65536 * pop4 (S 4) + (4096 * pop4 (S 3) + (256 * pop4 (S 2) + (16 * pop4 (S 1) + (1 * pop4 (S 0) + 0))))))))) := by
    simp only [vL, Nat.reduceMul, Nat.reducePow]
  have hlt : vL (fun c => pop4 (S c)) 10 < 9223372036854775808 := by
    rw [vp]
    exact lc_g q0 q1 q2 q3 q4 q5 q6 q7 q8 q9
  obtain ⟨sf, hsf⟩ : ∃ f : Nat → Nat, ∀ c, f c = pop4 (S c) + (if c < 9 then pop4 (S (c + 1)) else 0) := ⟨_, fun _ => rfl⟩
  have sf8 : ∀ c, sf c ≤ 8 := fun c => by
    rw [hsf]
    have a := p4 c
    have b := p4 (c + 1)
    split <;> omega
  have f0 : sf 0 = pop4 (S 0) + pop4 (S 1) := by rw [hsf]; rfl
  have f1 : sf 1 = pop4 (S 1) + pop4 (S 2) := by rw [hsf]; rfl
  have f2 : sf 2 = pop4 (S 2) + pop4 (S 3) := by rw [hsf]; rfl
  have f3 : sf 3 = pop4 (S 3) + pop4 (S 4) := by rw [hsf]; rfl
  have f4 : sf 4 = pop4 (S 4) + pop4 (S 5) := by rw [hsf]; rfl
  have f5 : sf 5 = pop4 (S 5) + pop4 (S 6) := by rw [hsf]; rfl
  have f6 : sf 6 = pop4 (S 6) + pop4 (S 7) := by rw [hsf]; rfl
  have f7 : sf 7 = pop4 (S 7) + pop4 (S 8) := by rw [hsf]; rfl
  have f8 : sf 8 = pop4 (S 8) + pop4 (S 9) := by rw [hsf]; rfl
  have f9 : sf 9 = pop4 (S 9) := by rw [hsf]; rfl
  have e3a : lc2 (lc1 x) + fx_lushr (lc2 (lc1 x)) 4 = ((vL sf 10 : Nat) : Int) := by
    rw [e2, lushr_k (k := 4) (m := 16) (by decide) (by decide) hlt (by omega), vp, lc_e q0]
    rw [vL_10, f0, f1, f2, f3, f4, f5, f6, f7, f8, f9]
    exact lc_f
  have st3 := vL_sta (S := sf) (fun c _ => by have := sf8 c; omega)
  have st4 : sta (fx_land ((vL sf 10 : Nat) : Int) 1085102592571150095) (fun c => if c % 2 = 0 then sf c else 0) := ⟨in64_land _ _, fun i hi => by
    have hm := mf_bit ⟨i, hi⟩
    simp only at hm
    rw [lbit_land, st3.2 i hi, hm]
    show (decide (i < 40) && (sf (i / 4)).testBit (i % 4) && decide (i % 8 < 4)) = (decide (i < 40) && (if (i / 4) % 2 = 0 then sf (i / 4) else 0).testBit (i % 4))
    by_cases he : (i / 4) % 2 = 0
    · rw [if_pos he, show decide (i % 8 < 4) = true from decide_eq_true (by omega), Bool.and_true]
    · rw [if_neg he, show decide (i % 8 < 4) = false from decide_eq_false (by omega), Nat.zero_testBit, Bool.and_false, Bool.and_false]⟩
  have e3 : lc3 (lc2 (lc1 x)) = ((vL (fun c => if c % 2 = 0 then sf c else 0) 10 : Nat) : Int) := by
    unfold lc3
    rw [e3a]
    exact sta_vL st4 (fun c _ => by have := sf8 c; split <;> omega)
  have vt : vL (fun c => if c % 2 = 0 then sf c else 0) 10 = 4294967296 * sf 8 + (16777216 * sf 6 + (65536 * sf 4 + (256 * sf 2 + sf 0))) := by
    rw [vL_10]
    show 68719476736 * (if 9 % 2 = 0 then sf 9 else 0) + (4294967296 * (if 8 % 2 = 0 then sf 8 else 0) + (268435456 * (if 7 % 2 = 0 then sf 7 else 0) + (16777216 * (if 6 % 2 = 0 then sf 6 else 0) + (1048576 * (if 5 % 2 = 0 then sf 5 else 0) + (65536 * (if 4 % 2 = 0 then sf 4 else 0) + (4096 * (if 3 % 2 = 0 then sf 3 else 0) + (256 * (if 2 % 2 = 0 then sf 2 else 0) + (16 * (if 1 % 2 = 0 then sf 1 else 0) + (1 * (if 0 % 2 = 0 then sf 0 else 0) + 0))))))))) = _
    rw [if_neg (show ¬ 9 % 2 = 0 by decide), if_pos (show 8 % 2 = 0 by decide), if_neg (show ¬ 7 % 2 = 0 by decide), if_pos (show 6 % 2 = 0 by decide), if_neg (show ¬ 5 % 2 = 0 by decide), if_pos (show 4 % 2 = 0 by decide), if_neg (show ¬ 3 % 2 = 0 by decide), if_pos (show 2 % 2 = 0 by decide), if_neg (show ¬ 1 % 2 = 0 by decide), if_pos (show 0 % 2 = 0 by decide)]
    exact lc_h
  have b0 := sf8 0
  have b2 := sf8 2
  have b4 := sf8 4
  have b6 := sf8 6
  have b8 := sf8 8
  have ep : pS S 10 = sf 0 + sf 2 + sf 4 + sf 6 + sf 8 := by
    simp only [pS]
    rw [f0, f2, f4, f6, f8]
    exact lc_i
  unfold lct
  rw [e3, vt, ep]
  exact lc_j b0 b2 b4 b6 b8
