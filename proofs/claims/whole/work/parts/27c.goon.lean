/-! The class: broken and filled standings, goOn, lines of a node. -/
theorem ones_bit : ∀ i : Fin 64, (73300775185 : Nat).testBit (i : Nat) = (decide ((i : Nat) < 40) && decide ((i : Nat) % 4 = 0)) := by decide +kernel
theorem any_bit : ∀ m : Fin 16, ((m : Nat).testBit 0 || ((m : Nat).testBit 1) || ((m : Nat).testBit 2) || ((m : Nat).testBit 3)) = decide ((m : Nat) ≠ 0) := by decide +kernel
theorem lbit_ones {i : Nat} (hi : i < 64) : lbit 73300775185 i = (decide (i < 40) && decide (i % 4 = 0)) := by
  have h := lbit_nat (n := 73300775185) (by decide) i
  have h2 := ones_bit ⟨i, hi⟩
  simp only at h2
  rw [← h2, ← h]
  rfl
/-- every cell's symbols, one after another, as a number -/
def vL (S : Nat → Nat) : Nat → Nat
  | 0 => 0
  | n + 1 => 2 ^ (4 * n) * S n + vL S n
theorem vL_lt {S : Nat → Nat} : ∀ n, (∀ c, c < n → S c < 16) → vL S n < 2 ^ (4 * n)
  | 0, _ => by simp [vL]
  | n + 1, h => by
    have ih := vL_lt n (fun c hc => h c (by omega))
    have hn := h n (by omega)
    unfold vL
    have e : (2 : Nat) ^ (4 * (n + 1)) = 2 ^ (4 * n) * 16 := by
      rw [show 4 * (n + 1) = 4 * n + 4 by omega, Nat.pow_add]
    rw [e]
    have h1 : 2 ^ (4 * n) * S n ≤ 2 ^ (4 * n) * 15 := Nat.mul_le_mul_left _ (by omega)
    omega
theorem vL_bit {S : Nat → Nat} {i : Nat} : ∀ n, (∀ c, c < n → S c < 16) → (vL S n).testBit i = (decide (i < 4 * n) && (S (i / 4)).testBit (i % 4))
  | 0, _ => by simp [vL]
  | n + 1, h => by
    have hlt := vL_lt n (fun c hc => h c (by omega))
    have hn := h n (by omega)
    unfold vL
    rw [Nat.testBit_two_pow_mul_add _ hlt]
    by_cases hi : i < 4 * n
    · rw [if_pos hi, vL_bit n (fun c hc => h c (by omega))]
      simp [hi, show i < 4 * (n + 1) by omega]
    · rw [if_neg hi]
      by_cases h2 : i < 4 * (n + 1)
      · rw [show i / 4 = n by omega, show i % 4 = i - 4 * n by omega]
        simp [h2]
      · have : (S n).testBit (i - 4 * n) = false := Nat.testBit_lt_two_pow (Nat.lt_of_lt_of_le hn (Nat.pow_le_pow_right (n := 2) (i := 4) (by decide) (by omega)))
        simp [this, h2]
theorem sta_vL {x : Int} {S : Nat → Nat} (h : sta x S) (h16 : ∀ c, c < 10 → S c < 16) : x = (vL S 10 : Nat) := by
  have hlt := vL_lt 10 h16
  simp only [Nat.reduceMul, Nat.reducePow] at hlt
  refine lbit_ext h.1 ⟨by omega, by omega⟩ (fun i hi => ?_)
  rw [h.2 i hi, lbit_nat (by omega), vL_bit 10 h16]
theorem vL_sta {S : Nat → Nat} (h16 : ∀ c, c < 10 → S c < 16) : sta ((vL S 10 : Nat) : Int) S := by
  have hlt := vL_lt 10 h16
  simp only [Nat.reduceMul, Nat.reducePow] at hlt
  refine ⟨⟨by omega, by omega⟩, fun i hi => ?_⟩
  rw [lbit_nat (by omega), vL_bit 10 h16]
theorem s10 {Z : PZ} (ho : pz_ok Z) {S : Nat → Nat} (hs : s_ok Z S) : ∀ c, c < 10 → S c < 16 := fun c hc => s_ok_16 ho hs hc
theorem brk_10 {Z : PZ} (ho : pz_ok Z) {S : Nat → Nat} (hs : s_ok Z S) : brk Z S ↔ ∃ c, c < 10 ∧ S c = 0 := by
  have h9 := pz_n ho
  rw [brk_iff]
  constructor
  · rintro ⟨c, h1, h2⟩
    exact ⟨c, by omega, h2⟩
  · rintro ⟨c, h1, h2⟩
    refine ⟨c, ?_, h2⟩
    apply Classical.byContradiction
    intro hn
    have := (hs c h1).2 (by omega)
    omega
theorem brk_long {Z : PZ} (ho : pz_ok Z) {S : Nat → Nat} (hs : s_ok Z S) {x : Int} (h : sta x S) : fx_land (fx_lor (fx_lor (fx_lor x (fx_lushr x 1)) (fx_lushr x 2)) (fx_lushr x 3)) 73300775185 = 73300775185 ↔ ¬ brk Z S := by
  have hb : ∀ i : Nat, i < 64 → lbit (fx_land (fx_lor (fx_lor (fx_lor x (fx_lushr x 1)) (fx_lushr x 2)) (fx_lushr x 3)) 73300775185) i = ((lbit x i || lbit x (i + 1) || lbit x (i + 2) || lbit x (i + 3)) && (decide (i < 40) && decide (i % 4 = 0))) := fun i hi => by
    rw [lbit_land, lbit_lor, lbit_lor, lbit_lor, lbit_lushr _ ⟨by omega, by omega⟩, lbit_lushr _ ⟨by omega, by omega⟩, lbit_lushr _ ⟨by omega, by omega⟩, lbit_ones hi]
    rfl
  have hc : ∀ c : Nat, c < 10 → (lbit x (4 * c) || lbit x (4 * c + 1) || lbit x (4 * c + 2) || lbit x (4 * c + 3)) = decide (S c ≠ 0) := fun c hc => by
    have a := any_bit ⟨S c, s10 ho hs c hc⟩
    simp only at a
    rw [← a, h.2 _ (by omega), h.2 _ (by omega), h.2 _ (by omega), h.2 _ (by omega)]
    rw [show 4 * c / 4 = c by omega, show (4 * c + 1) / 4 = c by omega, show (4 * c + 2) / 4 = c by omega, show (4 * c + 3) / 4 = c by omega, show 4 * c % 4 = 0 by omega, show (4 * c + 1) % 4 = 1 by omega, show (4 * c + 2) % 4 = 2 by omega, show (4 * c + 3) % 4 = 3 by omega]
    simp [show 4 * c < 40 by omega, show 4 * c + 1 < 40 by omega, show 4 * c + 2 < 40 by omega, show 4 * c + 3 < 40 by omega]
  rw [brk_10 ho hs]
  constructor
  · rintro he ⟨c, h1, h2⟩
    have e := hb (4 * c) (by omega)
    rw [he, lbit_ones (by omega), hc c h1, h2] at e
    simp [show 4 * c < 40 by omega] at e
  · intro hn
    refine lbit_ext (in64_land _ _) ⟨by omega, by omega⟩ (fun i hi => ?_)
    rw [hb i hi, lbit_ones hi]
    by_cases h40 : i < 40 ∧ i % 4 = 0
    · have e := hc (i / 4) (by omega)
      rw [show 4 * (i / 4) = i by omega] at e
      rw [e]
      have : S (i / 4) ≠ 0 := fun h0 => hn ⟨i / 4, by omega, h0⟩
      simp [this]
    · have : (decide (i < 40) && decide (i % 4 = 0)) = false := by
        rw [Bool.and_eq_false_iff]
        by_cases h1 : i < 40
        · exact Or.inr (decide_eq_false (fun h2 => h40 ⟨h1, h2⟩))
        · exact Or.inl (decide_eq_false h1)
      rw [this]
      simp
theorem and_m1 : ∀ m : Fin 16, (m : Nat) ≠ 0 → ((m : Nat) &&& ((m : Nat) - 1) = 0 ↔ pop4 (m : Nat) ≤ 1) := by decide +kernel
theorem fil_long {Z : PZ} (ho : pz_ok Z) {S : Nat → Nat} (hs : s_ok Z S) (hnb : ¬ brk Z S) {x : Int} (h : sta x S) : fx_land x (x - 73300775185) = 0 ↔ cCh Z S < 0 := by
  have h9 := pz_n ho
  have h16 := s10 ho hs
  have hne : ∀ c, c < 10 → S c ≠ 0 := fun c hc h0 => hnb ((brk_10 ho hs).mpr ⟨c, hc, h0⟩)
  have hx := sta_vL h h16
  have e1 : x - 73300775185 = ((vL (fun c => S c - 1) 10 : Nat) : Int) := by
    rw [hx]
    have n0 := hne 0 (by omega)
    have n1 := hne 1 (by omega)
    have n2 := hne 2 (by omega)
    have n3 := hne 3 (by omega)
    have n4 := hne 4 (by omega)
    have n5 := hne 5 (by omega)
    have n6 := hne 6 (by omega)
    have n7 := hne 7 (by omega)
    have n8 := hne 8 (by omega)
    have n9 := hne 9 (by omega)
    simp only [vL, Nat.reduceMul, Nat.reducePow, Nat.reduceAdd]
    omega
  have hy := vL_sta (S := fun c => S c - 1) (fun c hc => by have := h16 c hc; omega)
  have hbit : ∀ i : Nat, i < 64 → lbit (fx_land x (x - 73300775185)) i = (decide (i < 40) && (S (i / 4) &&& (S (i / 4) - 1)).testBit (i % 4)) := fun i hi => by
    rw [lbit_land, e1, h.2 i hi, hy.2 i hi, Nat.testBit_and]
    by_cases h40 : i < 40
    · simp [h40]
    · simp [h40]
  have hz : fx_land x (x - 73300775185) = 0 ↔ ∀ c, c < 10 → S c &&& (S c - 1) = 0 := by
    constructor
    · intro he c hc
      apply Nat.eq_of_testBit_eq
      intro i
      rw [Nat.zero_testBit]
      by_cases hi : i < 4
      · have e := hbit (4 * c + i) (by omega)
        rw [he, show (4 * c + i) / 4 = c by omega, show (4 * c + i) % 4 = i by omega] at e
        have z0 : lbit 0 (4 * c + i) = false := by
          have := lbit_nat (n := 0) (by decide) (4 * c + i)
          rw [Nat.zero_testBit] at this
          exact this
        rw [z0] at e
        simpa [show 4 * c + i < 40 by omega] using e.symm
      · have hlt : S c &&& (S c - 1) < 16 := Nat.lt_of_le_of_lt Nat.and_le_left (h16 c hc)
        exact Nat.testBit_lt_two_pow (Nat.lt_of_lt_of_le hlt (Nat.pow_le_pow_right (n := 2) (i := 4) (by decide) (by omega)))
    · intro hall
      refine lbit_ext (in64_land _ _) ⟨by omega, by omega⟩ (fun i hi => ?_)
      have z0 : lbit 0 i = false := by
        have := lbit_nat (n := 0) (by decide) i
        rw [Nat.zero_testBit] at this
        exact this
      rw [hbit i hi, z0]
      by_cases h40 : i < 40
      · rw [hall (i / 4) (by omega)]
        simp
      · simp [h40]
  rw [hz]
  constructor
  · intro hall
    apply Classical.byContradiction
    intro hn
    have hb := cch_b (S := S) (Z.1 * Z.2.1).toNat 0 (-1) (by omega) (by omega)
    have hb2 : cCh Z S < ((0 + (Z.1 * Z.2.1).toNat : Nat) : Int) := hb.2
    have hp : 1 < pop4 (S (cCh Z S).toNat) := cch_pos (Z.1 * Z.2.1).toNat 0 (-1) (fun h => by omega) (by show 0 ≤ cCh Z S; omega)
    have hc10 : (cCh Z S).toNat < 10 := by omega
    have := (and_m1 ⟨S (cCh Z S).toNat, h16 _ hc10⟩ (hne _ hc10)).mp (hall _ hc10)
    simp only at this
    omega
  · intro hneg c hc
    refine (and_m1 ⟨S c, h16 c hc⟩ (hne c hc)).mpr ?_
    simp only
    by_cases hcn : (c : Int) < Z.1 * Z.2.1
    · exact cCh_neg hneg c hcn
    · rw [(hs c hc).2 (by omega)]
      decide
theorem cmp_0 {a b : Int} : fx_cmp a b = 0 ↔ a = b := by
  unfold fx_cmp
  constructor
  · intro h
    split at h
    · omega
    · split at h
      · next h2 => exact h2
      · omega
  · intro h
    rw [if_neg (by omega), if_pos h]
section CBR
variable {kc : List va_E} {L : Nat} {xs : Nat → Int32} {d : Nat} {Q : Option fx_V → fx_M → Prop} {Z : PZ} {S : Nat → Nat}
theorem sp_isBroken (ho : pz_ok Z) {M : fx_M} (hs : s_ok Z S) {v : Int} (hv : sta v S) (K : Q (some (jI (if brk Z S then 1 else 0))) M) : wc kc (d + 1) 114 [jL v] M Q := by
  refine s114 ⟨in64_land _ _, by split <;> omega, ?_⟩
  by_cases hb : brk Z S
  · rw [if_pos hb] at K
    rw [if_neg (fun h => (brk_long ho hs hv).mp (cmp_0.mp h) hb)]
    exact K
  · rw [if_neg hb] at K
    rw [if_pos (cmp_0.mpr ((brk_long ho hs hv).mpr hb))]
    exact K
theorem sp_isFillingL (ho : pz_ok Z) {M : fx_M} (hs : s_ok Z S) (hnb : ¬ brk Z S) {v : Int} (hv : sta v S) (K : Q (some (jI (if cCh Z S < 0 then 1 else 0))) M) : wc kc (d + 1) 115 [jL v] M Q := by
  refine s115 ⟨in64_land _ _, by split <;> omega, ?_⟩
  by_cases hb : cCh Z S < 0
  · rw [if_pos hb] at K
    rw [if_pos (cmp_0.mpr ((fil_long ho hs hnb hv).mpr hb))]
    exact K
  · rw [if_neg hb] at K
    rw [if_neg (fun h => hb ((fil_long ho hs hnb hv).mp (cmp_0.mp h)))]
    exact K
theorem ccc_loop (ho : pz_ok Z) {M : fx_M} (hz : cz M 11 Z) (hs : s_ok Z S) {v : Int} (hv : sta v S) (hpos : 0 ≤ cCh Z S) (K : Q (some (jI (cCh Z S))) M) : ∀ (t c : Nat) (b v3 v4 : Int), (c : Int) + t = Z.1 * Z.2.1 → -1 ≤ b → b < c → cch S t c b = cCh Z S → ((b < 0 ∧ v3 = 0 ∧ v4 = 5) ∨ (0 ≤ b ∧ v3 = b ∧ v4 = (pop4 (S b.toNat) : Nat))) → wp kc (d + 2) 116 8 [some (jR 31), some (jL v), none, some (jI v3), some (jI v4), some (jI c), none] [] M Q := by
  have h9 := pz_n ho
  intro t
  induction t with
  | zero =>
    intro c b v3 v4 hc h1 h2 he hb
    refine s116_8 ?_
    rw [hz.2.2.1]
    have he : b = cCh Z S := he
    have : v3 = cCh Z S := by omega
    rw [← this] at K
    exact ⟨⟨⟨by omega, by omega⟩, ⟨by omega, by omega⟩⟩, fun _ => K, fun h => by omega⟩
  | succ t ih =>
    intro c b v3 v4 hc h1 h2 he hb
    have h16 := s_ok_16 ho hs (c := c) (by omega)
    have hp := pop4_le (S c)
    have hpb := pop4_le (S b.toNat)
    rw [cch] at he
    refine s116_8 ?_
    rw [hz.2.2.1]
    refine ⟨⟨⟨by omega, by omega⟩, ⟨by omega, by omega⟩⟩, fun h => by omega, fun _ => sp_may hv ⟨by omega, by omega⟩ (by rw [Int.toNat_natCast]; exact h16) (s116_26 (sp_bitCount (s116_29 ?_)))⟩
    rw [Int.toNat_natCast, show bct ((S c : Nat) : Int) = ((pop4 (S c) : Nat) : Int) from bct4 ⟨S c, h16⟩]
    refine ⟨⟨by omega, by omega⟩, fun _ => ⟨by omega, by omega⟩, fun _ => ⟨by omega, by omega⟩, ?_⟩
    by_cases hch : 1 < pop4 (S c) ∧ (b < 0 ∨ pop4 (S c) < pop4 (S b.toNat))
    · rw [if_pos hch] at he
      have hlt : ((pop4 (S c) : Nat) : Int) < v4 := by omega
      rw [if_pos (show (1 : Int) < ((pop4 (S c) : Nat) : Int) by omega), if_pos hlt, if_pos (show (1 : Int) < ((pop4 (S c) : Nat) : Int) by omega), if_pos hlt]
      have nx := ih (c + 1) (c : Int) (c : Int) ((pop4 (S c) : Nat) : Int) (by omega) (by omega) (by omega) he (Or.inr ⟨by omega, rfl, by rw [Int.toNat_natCast]⟩)
      rw [show ((c + 1 : Nat) : Int) = (c : Int) + 1 by omega] at nx
      exact nx
    · rw [if_neg hch] at he
      have nx := ih (c + 1) b v3 v4 (by omega) h1 (by omega) he hb
      rw [show ((c + 1 : Nat) : Int) = (c : Int) + 1 by omega] at nx
      by_cases h1p : 1 < pop4 (S c)
      · have hge : ¬ ((pop4 (S c) : Nat) : Int) < v4 := fun hlt => hch ⟨h1p, by omega⟩
        rw [if_pos (show (1 : Int) < ((pop4 (S c) : Nat) : Int) by omega), if_neg hge, if_pos (show (1 : Int) < ((pop4 (S c) : Nat) : Int) by omega), if_neg hge]
        exact nx
      · rw [if_neg (show ¬ (1 : Int) < ((pop4 (S c) : Nat) : Int) by omega), if_neg (show ¬ (1 : Int) < ((pop4 (S c) : Nat) : Int) by omega)]
        exact nx
theorem sp_cChoice (ho : pz_ok Z) {M : fx_M} (hz : cz M 11 Z) (hs : s_ok Z S) {v : Int} (hv : sta v S) (hpos : 0 ≤ cCh Z S) (K : Q (some (jI (cCh Z S))) M) : wc kc (d + 2) 116 [jR 31, jL v] M Q :=
  s116 (ccc_loop ho hz hs hv hpos K (Z.1 * Z.2.1).toNat 0 (-1) 0 5 (by have := pz_n ho; omega) (by omega) (by omega) rfl (Or.inl ⟨by omega, rfl, rfl⟩))
/-- what goOn of the class may change -/
def fGc (M N : fx_M) : Prop := ∀ b j, ¬ (b = 31 ∧ (j = 3 ∨ j = 5 ∨ j = 6 ∨ j = 7)) → ¬ (b = 3 ∧ j = 1) → b ≠ 4 → N b j = M b j
theorem fGc_tr {M N O : fx_M} (h1 : fGc M N) (h2 : fGc N O) : fGc M O := fun b j a1 a2 a3 => (h2 b j a1 a2 a3).trans (h1 b j a1 a2 a3)
theorem fGc_rf {M : fx_M} : fGc M M := fun _ _ _ _ _ => rfl
theorem totS_pos (ho : pz_ok Z) (hs : s_ok Z S) (hnb : ¬ brk Z S) : 1 ≤ totS S (Z.1 * Z.2.1).toNat := by
  have h9 := pz_n ho
  have hne : S 0 ≠ 0 := fun h => hnb (brk_iff.mpr ⟨0, by omega, h⟩)
  have h16 := s_ok_16 ho hs (c := 0) (by omega)
  have h1 := pop4_pos ⟨S 0, h16⟩ hne
  simp only at h1
  have : ∀ n, 1 ≤ n → pop4 (S 0) ≤ totS S n := fun n => by
    induction n with
    | zero => intro h; omega
    | succ n ih =>
      intro _
      unfold totS
      by_cases hn : n = 0
      · subst hn
        simp [totS]
      · have := ih (by omega)
        omega
  have := this (Z.1 * Z.2.1).toNat (by omega)
  omega
theorem cgo_loop (ho : pz_ok Z) {M0 : fx_M} {w : Int} (hw : 0 ≤ w ∧ w ≤ 1) : ∀ (k : Nat) (S : Nat → Nat) (v : Int) (M : fx_M) (n : Nat) (cs : List Int), totS S (Z.1 * Z.2.1).toNat < k → n + totS S (Z.1 * Z.2.1).toNat ≤ 36 → ¬ brk Z S → s_ok Z S → sta v S → ckn M 11 Z → M 31 2 = w → M 31 7 = n → cout M0 M cs → fGc M0 M → (∀ M' v', fGc M0 M' → sta v' (gOn Z k S).1 → s_ok Z (gOn Z k S).1 → M' 31 7 = (n + (gOn Z k S).2.1 : Nat) → cout M0 M' (cs ++ if w = 1 then (gOn Z k S).2.2 else []) → Q (some (jL v')) M') → wp (kcs L xs) (d + 4) 109 7 [some (jR 31), none, none, some (jL v), none] [] M Q := by
  have h9 := pz_n ho
  intro k
  induction k with
  | zero =>
    intro S v M n cs hk
    omega
  | succ k ih =>
    intro S v M n cs hk hn36 hnb hs hv hc h2 h7 ho1 hf K
    have htp := totS_pos ho hs hnb
    refine s109_7 ?_
    rw [h7]
    refine ⟨⟨by omega, by omega⟩, fun h => by omega, fun _ => sp_findOne ho hc hs hv (fun r R c y e hR M1 f1 e3 e5 e6 => s109_21 ?_) (fun e => s109_21 ?_)⟩
    · obtain ⟨R', hR', hcb, hy4, hbt, hcl, hcm⟩ := fO1_in ho e
      rw [hR] at hR'
      cases hR'
      obtain ⟨cn, rfl⟩ : ∃ cn : Nat, c = (cn : Int) := ⟨c.toNat, by omega⟩
      rw [Int.toNat_natCast] at hbt
      have hgo : gOn Z (k + 1) S = ((gOn Z k (s_wo S cn y)).1, (gOn Z k (s_wo S cn y)).2.1 + 1, tRs Z S (rl Z r) none r 0 (cn : Int) y ++ (gOn Z k (s_wo S cn y)).2.2) := by
        rw [gOn, if_neg hnb, e]
        simp only [Int.toNat_natCast]
      rw [hgo] at K
      have h16 := s_ok_16 ho hs (c := cn) (by omega)
      have htot := totS_wo (S := S) hy4 h16 hbt (Z.1 * Z.2.1).toNat
      rw [if_pos (by omega)] at htot
      have c1 : ckn M1 11 Z := ckn_fr hc (fun b j h1 h2 => f1 b j (by omega))
      have e2 : M1 31 2 = w := by rw [f1 _ _ (by omega)]; exact h2
      have e7 : M1 31 7 = n := by rw [f1 _ _ (by omega)]; exact h7
      have o1 := cout_0 (cout_tr ho1 (cout_fr (N := M1) ho1.ok (f1 _ _ (by omega)) (fun j => f1 _ _ (by omega))))
      have f01 : fGc M0 M1 := fGc_tr hf (fun b j b1 b2 b3 => f1 b j (by omega))
      have hs1 := s_wo_ok (s := y) hs hcb.2
      have go : ∀ M2 cs2, fGc M0 M2 → ckn M2 11 Z → M2 31 2 = w → M2 31 5 = (cn : Int) → M2 31 6 = (y : Int) → M2 31 7 = n → cout M0 M2 cs2 → (cs2 ++ if w = 1 then (gOn Z k (s_wo S cn y)).2.2 else []) = (cs ++ if w = 1 then tRs Z S (rl Z r) none r 0 (cn : Int) y ++ (gOn Z k (s_wo S cn y)).2.2 else []) → wc (kcs L xs) (d + 3) 113 [jL v, jI (M2 31 5), jI (M2 31 6)] M2 (fun u M1 => wp (kcs L xs) (d + 4) 109 49 [some (jR 31), none, none, none, none] (u.toList ++ []) M1 Q) := fun M2 cs2 g1 g2 g3 g4 g5 g6 g7 g8 => by
        rw [g4, g5]
        have hv1 := sta_wo hv (c := (cn : Int)) (s := (y : Int)) ⟨by omega, by omega⟩ ⟨by omega, by omega⟩
        rw [Int.toNat_natCast, Int.toNat_natCast] at hv1
        refine s113 (s109_49 ?_)
        rw [g4, g6]
        have fu : ∀ b j, ¬ (b = 31 ∧ j = 7) → (fx_up M2 31 7 ((n : Int) + 1)) b j = M2 b j := fun b j hb => fx_up_ne hb
        have c3 : ckn (fx_up M2 31 7 ((n : Int) + 1)) 11 Z := ckn_fr g2 (fun b j h1 h2 => fu b j (by omega))
        have o3 := cout_0 (cout_tr g7 (cout_fr (N := fx_up M2 31 7 ((n : Int) + 1)) g7.ok (fu _ _ (by omega)) (fun j => fu _ _ (by omega))))
        have f3 : fGc M0 (fx_up M2 31 7 ((n : Int) + 1)) := fGc_tr g1 (fun b j b1 b2 b3 => fu b j (by omega))
        have h161 := s_ok_16 ho hs1 (c := cn) (by omega)
        refine sp_may hv1 ⟨by omega, by omega⟩ (by rw [Int.toNat_natCast]; exact h161) (s109_68 ?_)
        rw [Int.toNat_natCast]
        refine ⟨⟨by omega, by omega⟩, fun hne => ?_, fun h0 => ?_⟩
        · refine ih (s_wo S cn y) _ _ (n + 1) cs2 (by omega) (by omega) (fun hb => ?_) hs1 hv1 c3 (by rw [fu _ _ (by omega)]; exact g3) (by rw [fx_up_self]; omega) o3 f3 (fun M' v' c1 c2 c3 c4 c5 => K M' v' c1 c2 c3 (by rw [c4]; show ((n + 1 + (gOn Z k (s_wo S cn y)).2.1 : Nat) : Int) = ((n + ((gOn Z k (s_wo S cn y)).2.1 + 1) : Nat) : Int); omega) (by rw [g8] at c5; exact c5))
          obtain ⟨x, hx1, hx2⟩ := brk_iff.mp hb
          by_cases ex : x = cn
          · subst ex
            omega
          · unfold s_wo at hx2
            rw [if_neg ex] at hx2
            exact hnb (brk_iff.mpr ⟨x, hx1, hx2⟩)
        · have hb : brk Z (s_wo S cn y) := brk_iff.mpr ⟨cn, hcb.2, by omega⟩
          have hg0 : gOn Z k (s_wo S cn y) = (s_wo S cn y, 0, []) := by
            cases k with
            | zero => rfl
            | succ k => rw [gOn, if_pos hb]
          rw [hg0] at K g8
          refine K _ _ f3 hv1 hs1 (by rw [fx_up_self]; show (n : Int) + 1 = ((n + (0 + 1) : Nat) : Int); omega) ?_
          rw [← g8]
          have : (cs2 ++ if w = 1 then ([] : List Int) else []) = cs2 := by split <;> simp
          rw [this]
          exact o3
      refine ⟨⟨by omega, by omega⟩, fun h => by omega, fun _ => ⟨by rw [e2]; exact ⟨by omega, by omega⟩, fun h0 => ?_, fun hn0 => ?_⟩⟩
      · have w0 : w = 0 := by rw [← e2]; exact h0
        exact go M1 cs f01 c1 e2 e5 e6 e7 o1 (by rw [if_neg (by omega), if_neg (by omega)])
      · have w1 : w = 1 := by rw [e2] at hn0; omega
        refine sp_writeReason (d := d + 1) ho c1.1 hs hv (R := R) (s := none) (r := r) (q := -1) (c := (cn : Int)) (y := y) hR (Or.inl ⟨by omega, by omega, rfl⟩) (Or.inl ⟨rfl, rfl⟩) e3 (fun h => by omega) e5 e6 hcb hy4 o1.ok (fun M2 o2 f2 => s109_37 ?_)
        refine go M2 _ (fGc_tr f01 (fun b j b1 b2 b3 => f2 b j b2 b3)) (ckn_Ou c1 f2) (by rw [f2 _ _ (by omega) (by decide)]; exact e2) (by rw [f2 _ _ (by omega) (by decide)]; exact e5) (by rw [f2 _ _ (by omega) (by decide)]; exact e6) (by rw [f2 _ _ (by omega) (by decide)]; exact e7) (cout_tr o1 o2) ?_
        rw [if_pos w1, if_pos w1, rl_of hR, List.append_assoc]
        rfl
    · have hgo : gOn Z (k + 1) S = (S, 0, []) := by rw [gOn, if_neg hnb, e]
      rw [hgo] at K
      refine ⟨⟨by omega, by omega⟩, fun _ => K M v hf hv hs (by rw [h7]; simp) ?_, fun h => absurd rfl h⟩
      have : (cs ++ if w = 1 then ([] : List Int) else []) = cs := by split <;> simp
      rw [this]
      exact ho1
theorem sp_goOn (ho : pz_ok Z) {M : fx_M} {w v : Int} (hw : 0 ≤ w ∧ w ≤ 1) (hnb : ¬ brk Z S) (hs : s_ok Z S) (hv : sta v S) (hc : ckn M 11 Z) (h2 : M 31 2 = w) (hO : o_ok M 3) (K : ∀ M' v', fGc M M' → sta v' (gOn Z 37 S).1 → s_ok Z (gOn Z 37 S).1 → M' 31 7 = ((gOn Z 37 S).2.1 : Nat) → cout M M' (if w = 1 then (gOn Z 37 S).2.2 else []) → Q (some (jL v')) M') : wc (kcs L xs) (d + 4) 109 [jR 31, jL v] M Q := by
  have h9 := pz_n ho
  have ht := totS_le (S := S) (Z.1 * Z.2.1).toNat
  have fu : ∀ b j, ¬ (b = 31 ∧ j = 7) → (fx_up M 31 7 0) b j = M b j := fun b j hb => fx_up_ne hb
  refine s109 (cgo_loop (M0 := M) ho hw 37 S v _ 0 [] (by omega) (by omega) hnb hs hv (ckn_fr hc (fun b j h1 h2 => fu b j (by omega))) (by rw [fu _ _ (by omega)]; exact h2) (by rw [fx_up_self]; rfl) (cout_fr hO (fu _ _ (by omega)) (fun j => fu _ _ (by omega))) (fun b j b1 b2 b3 => fu b j (by omega)) (fun M' v' a1 a2 a3 a4 a5 => K M' v' a1 a2 a3 (by rw [a4]; simp) (by simpa using a5)))
end CBR
