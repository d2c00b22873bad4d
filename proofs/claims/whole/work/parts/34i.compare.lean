/-! FORMS: keys closed, and compared (the class). -/
theorem or_mid {hi lo f : Nat} (k j : Nat) (h1 : lo < 2 ^ k) (h2 : f * 2 ^ k + lo < 2 ^ j) : (hi * 2 ^ j + lo) ||| (f * 2 ^ k) = hi * 2 ^ j + (f * 2 ^ k + lo) := by
  have hlo : lo < 2 ^ j := by omega
  rw [Nat.mul_comm hi, Nat.mul_comm f] at *
  rw [Nat.two_pow_add_eq_or_of_lt hlo hi, Nat.or_assoc, Nat.or_comm lo, ← Nat.two_pow_add_eq_or_of_lt h1 f, ← Nat.two_pow_add_eq_or_of_lt h2 hi]
/-- a key whose last places are filled -/
def clK (R : PR) : Int := kyR R + (((16 ^ (4 - R.2.2.length) : Nat) : Int) - 1)
theorem fx_or_i {a b : Int} (ha : 0 ≤ a ∧ a ≤ 2147483647) (hb : 0 ≤ b ∧ b ≤ 2147483647) {c : Nat} (h : a.toNat ||| b.toNat = c) : fx_or a b = (c : Int) := by
  rw [fx_or_nat ha hb, h]
/-- nibbles of a key -/
theorem kyNb {x y : Int} {k : Nat} (hk : k < 28) (hx : 0 ≤ x ∧ x < 2147483648) (h : x / ((2 ^ k : Nat) : Int) % 16 = y) : fx_and (fx_shr x (k : Int)) 15 = y := by
  rw [fx_and_15, fx_shr_eq ⟨by omega, by omega⟩ ⟨by omega, by omega⟩, Int.toNat_natCast]
  exact h
section CLO
variable {kc : List va_E} {d : Nat} {Q : Option fx_V → fx_M → Prop} {M : fx_M}
theorem cl_step {k v1 : Int} {s : Nat} (hs : s ≤ 12) (K : wp kc (d + 1) 153 4 [some (jI k), some (jI (fx_or v1 (if fx_and (fx_shr k (s : Int)) 15 = 0 then fx_shl 15 (s : Int) else 0))), some (jI ((s : Int) + 4))] [] M Q) (hb : 0 ≤ fx_and (fx_shr k (s : Int)) 15 ∧ fx_and (fx_shr k (s : Int)) 15 < 16) : wp kc (d + 1) 153 4 [some (jI k), some (jI v1), some (jI s)] [] M Q := s153_4 ⟨⟨by omega, by omega⟩, fun h => by omega, fun _ => ⟨⟨by omega, by omega⟩, K⟩⟩
theorem cl_val {H a b c e : Int} (hH : 0 ≤ H ∧ H < 2048) (ha : 1 ≤ a ∧ a ≤ 9) (hb : 0 ≤ b ∧ b ≤ 9) (hc : 0 ≤ c ∧ c ≤ 9) (he : 0 ≤ e ∧ e ≤ 9) (h1 : b = 0 → c = 0) (h2 : c = 0 → e = 0) (K : Q (some (jI (H * 65536 + a * 4096 + (if b = 0 then 15 else b) * 256 + (if c = 0 then 15 else c) * 16 + (if e = 0 then 15 else e)))) M) : wc kc (d + 1) 153 [jI (H * 65536 + a * 4096 + b * 256 + c * 16 + e)] M Q := by
  have n0 : fx_and (fx_shr (H * 65536 + a * 4096 + b * 256 + c * 16 + e) ((0 : Nat) : Int)) 15 = e := kyNb (by omega) ⟨by omega, by omega⟩ (by show _ / 1 % 16 = e; omega)
  have n1 : fx_and (fx_shr (H * 65536 + a * 4096 + b * 256 + c * 16 + e) ((4 : Nat) : Int)) 15 = c := kyNb (by omega) ⟨by omega, by omega⟩ (by show _ / 16 % 16 = c; omega)
  have n2 : fx_and (fx_shr (H * 65536 + a * 4096 + b * 256 + c * 16 + e) ((8 : Nat) : Int)) 15 = b := kyNb (by omega) ⟨by omega, by omega⟩ (by show _ / 256 % 16 = b; omega)
  have n3 : fx_and (fx_shr (H * 65536 + a * 4096 + b * 256 + c * 16 + e) ((12 : Nat) : Int)) 15 = a := kyNb (by omega) ⟨by omega, by omega⟩ (by show _ / 4096 % 16 = a; omega)
  have s0 : fx_shl 15 ((0 : Nat) : Int) = 15 := by decide +kernel
  have s1 : fx_shl 15 ((4 : Nat) : Int) = 240 := by decide +kernel
  have s2 : fx_shl 15 ((8 : Nat) : Int) = 3840 := by decide +kernel
  have or0 : ∀ x : Int, 0 ≤ x ∧ x ≤ 2147483647 → fx_or x 0 = x := fun x hx => by
    rw [fx_or_nat hx ⟨by omega, by omega⟩, show (0 : Int).toNat = 0 from rfl, Nat.or_zero]
    omega
  have o0 : fx_or (H * 65536 + a * 4096 + b * 256 + c * 16 + e) (if e = 0 then fx_shl 15 ((0 : Nat) : Int) else 0) = H * 65536 + a * 4096 + b * 256 + c * 16 + (if e = 0 then 15 else e) := by
    split
    · rename_i h
      rw [s0]
      have := or_mid (hi := (H * 4096 + a * 256 + b * 16 + c).toNat) (lo := 0) (f := 15) 0 4 (by decide) (by decide)
      rw [fx_or_i ⟨by omega, by omega⟩ ⟨by omega, by omega⟩ (c := (H * 4096 + a * 256 + b * 16 + c).toNat * 2 ^ 4 + (15 * 2 ^ 0 + 0)) (by
        rw [← this]
        congr 1
        show _ = (H * 4096 + a * 256 + b * 16 + c).toNat * 16 + 0
        omega)]
      show (((H * 4096 + a * 256 + b * 16 + c).toNat * 16 + 15 : Nat) : Int) = _
      omega
    · rw [or0 _ ⟨by omega, by omega⟩]
  have o1 : ∀ e' : Int, 0 ≤ e' ∧ e' ≤ 15 → fx_or (H * 65536 + a * 4096 + b * 256 + c * 16 + e') (if c = 0 then fx_shl 15 ((4 : Nat) : Int) else 0) = H * 65536 + a * 4096 + b * 256 + (if c = 0 then 15 else c) * 16 + e' := fun e' he' => by
    split
    · rename_i h
      rw [s1]
      have := or_mid (hi := (H * 256 + a * 16 + b).toNat) (lo := e'.toNat) (f := 15) 4 8 (by show e'.toNat < 16; omega) (by show 15 * 16 + e'.toNat < 256; omega)
      rw [fx_or_i ⟨by omega, by omega⟩ ⟨by omega, by omega⟩ (c := (H * 256 + a * 16 + b).toNat * 2 ^ 8 + (15 * 2 ^ 4 + e'.toNat)) (by
        rw [← this]
        congr 1
        show _ = (H * 256 + a * 16 + b).toNat * 256 + e'.toNat
        omega)]
      show (((H * 256 + a * 16 + b).toNat * 256 + (240 + e'.toNat) : Nat) : Int) = _
      omega
    · rw [or0 _ ⟨by omega, by omega⟩]
  have o2 : ∀ c' e' : Int, 0 ≤ c' ∧ c' ≤ 15 → 0 ≤ e' ∧ e' ≤ 15 → fx_or (H * 65536 + a * 4096 + b * 256 + c' * 16 + e') (if b = 0 then fx_shl 15 ((8 : Nat) : Int) else 0) = H * 65536 + a * 4096 + (if b = 0 then 15 else b) * 256 + c' * 16 + e' := fun c' e' hc' he' => by
    split
    · rename_i h
      rw [s2]
      have := or_mid (hi := (H * 16 + a).toNat) (lo := (c' * 16 + e').toNat) (f := 15) 8 12 (by show (c' * 16 + e').toNat < 256; omega) (by show 15 * 256 + (c' * 16 + e').toNat < 4096; omega)
      rw [fx_or_i ⟨by omega, by omega⟩ ⟨by omega, by omega⟩ (c := (H * 16 + a).toNat * 2 ^ 12 + (15 * 2 ^ 8 + (c' * 16 + e').toNat)) (by
        rw [← this]
        congr 1
        show _ = (H * 16 + a).toNat * 4096 + (c' * 16 + e').toNat
        omega)]
      show (((H * 16 + a).toNat * 4096 + (3840 + (c' * 16 + e').toNat) : Nat) : Int) = _
      omega
    · rw [or0 _ ⟨by omega, by omega⟩]
  have ie : 0 ≤ (if e = 0 then (15 : Int) else e) ∧ (if e = 0 then (15 : Int) else e) ≤ 15 := by split <;> omega
  have ic : 0 ≤ (if c = 0 then (15 : Int) else c) ∧ (if c = 0 then (15 : Int) else c) ≤ 15 := by split <;> omega
  have ib : 0 ≤ (if b = 0 then (15 : Int) else b) ∧ (if b = 0 then (15 : Int) else b) ≤ 15 := by split <;> omega
  refine s153 (cl_step (s := 0) (by omega) ?_ (by rw [n0]; omega))
  rw [n0, o0]
  refine cl_step (s := 4) (by omega) ?_ (by rw [n1]; omega)
  rw [n1, o1 _ ie]
  refine cl_step (s := 8) (by omega) ?_ (by rw [n2]; omega)
  rw [n2, o2 _ _ ic ie]
  refine cl_step (s := 12) (by omega) ?_ (by rw [n3]; omega)
  rw [n3, if_neg (show ¬ a = 0 by omega), or0 _ ⟨by omega, by omega⟩]
  exact s153_4 ⟨⟨by omega, by omega⟩, fun _ => K, fun h => by omega⟩
theorem sp_closed {n : Int} {R : PR} (h : pr_ok n R) (hn : n ≤ 9) (K : Q (some (jI (clK R))) M) : wc kc (d + 1) 153 [jI (kyR R)] M Q := by
  obtain ⟨r1, r2, r3, r4, r5, r6, r7, r8⟩ := h
  have hd := dgt_b ⟨r3, r4⟩
  have hc : ∀ c ∈ R.2.2, 0 ≤ c ∧ c < 9 := fun c hx => by
    have := r7 c hx
    omega
  unfold clK at K
  unfold kyR at K ⊢
  rcases hl : R.2.2 with _ | ⟨a, _ | ⟨b, _ | ⟨c, _ | ⟨e, _ | ⟨y, l⟩⟩⟩⟩⟩
  · rw [hl] at r5
    exact absurd r5 (by decide)
  · rw [hl] at hc K
    have ha := hc a (by simp)
    have := cl_val (kc := kc) (d := d) (Q := Q) (M := M) (H := R.1 * 256 + dgt R.2.1) (a := a + 1) (b := 0) (c := 0) (e := 0) ⟨by omega, by omega⟩ ⟨by omega, by omega⟩ ⟨by omega, by omega⟩ ⟨by omega, by omega⟩ ⟨by omega, by omega⟩ (fun _ => rfl) (fun _ => rfl)
    have e1 : R.1 * 16777216 + dgt R.2.1 * 65536 + cel 0 [a] * ((16 ^ (4 - [a].length) : Nat) : Int) = (R.1 * 256 + dgt R.2.1) * 65536 + (a + 1) * 4096 + 0 * 256 + 0 * 16 + 0 := by
      show R.1 * 16777216 + dgt R.2.1 * 65536 + (0 * 16 + (a + 1)) * 4096 = _
      omega
    have e2 : ((16 ^ (4 - [a].length) : Nat) : Int) = 4096 := rfl
    rw [e1] at K ⊢
    rw [e2] at K
    refine this ?_
    rw [if_pos rfl]
    have e3 : (R.1 * 256 + dgt R.2.1) * 65536 + (a + 1) * 4096 + 15 * 256 + 15 * 16 + 15 = (R.1 * 256 + dgt R.2.1) * 65536 + (a + 1) * 4096 + 0 * 256 + 0 * 16 + 0 + (4096 - 1) := by omega
    rw [e3]
    exact K
  · rw [hl] at hc K
    have ha := hc a (by simp)
    have hb := hc b (by simp)
    have := cl_val (kc := kc) (d := d) (Q := Q) (M := M) (H := R.1 * 256 + dgt R.2.1) (a := a + 1) (b := b + 1) (c := 0) (e := 0) ⟨by omega, by omega⟩ ⟨by omega, by omega⟩ ⟨by omega, by omega⟩ ⟨by omega, by omega⟩ ⟨by omega, by omega⟩ (fun h => by omega) (fun _ => rfl)
    have e1 : R.1 * 16777216 + dgt R.2.1 * 65536 + cel 0 [a, b] * ((16 ^ (4 - [a, b].length) : Nat) : Int) = (R.1 * 256 + dgt R.2.1) * 65536 + (a + 1) * 4096 + (b + 1) * 256 + 0 * 16 + 0 := by
      show R.1 * 16777216 + dgt R.2.1 * 65536 + ((0 * 16 + (a + 1)) * 16 + (b + 1)) * 256 = _
      omega
    have e2 : ((16 ^ (4 - [a, b].length) : Nat) : Int) = 256 := rfl
    rw [e1] at K ⊢
    rw [e2] at K
    refine this ?_
    rw [if_neg (by omega), if_pos rfl]
    have e3 : (R.1 * 256 + dgt R.2.1) * 65536 + (a + 1) * 4096 + (b + 1) * 256 + 15 * 16 + 15 = (R.1 * 256 + dgt R.2.1) * 65536 + (a + 1) * 4096 + (b + 1) * 256 + 0 * 16 + 0 + (256 - 1) := by omega
    rw [e3]
    exact K
  · rw [hl] at hc K
    have ha := hc a (by simp)
    have hb := hc b (by simp)
    have hcc := hc c (by simp)
    have := cl_val (kc := kc) (d := d) (Q := Q) (M := M) (H := R.1 * 256 + dgt R.2.1) (a := a + 1) (b := b + 1) (c := c + 1) (e := 0) ⟨by omega, by omega⟩ ⟨by omega, by omega⟩ ⟨by omega, by omega⟩ ⟨by omega, by omega⟩ ⟨by omega, by omega⟩ (fun h => by omega) (fun h => by omega)
    have e1 : R.1 * 16777216 + dgt R.2.1 * 65536 + cel 0 [a, b, c] * ((16 ^ (4 - [a, b, c].length) : Nat) : Int) = (R.1 * 256 + dgt R.2.1) * 65536 + (a + 1) * 4096 + (b + 1) * 256 + (c + 1) * 16 + 0 := by
      show R.1 * 16777216 + dgt R.2.1 * 65536 + (((0 * 16 + (a + 1)) * 16 + (b + 1)) * 16 + (c + 1)) * 16 = _
      omega
    have e2 : ((16 ^ (4 - [a, b, c].length) : Nat) : Int) = 16 := rfl
    rw [e1] at K ⊢
    rw [e2] at K
    refine this ?_
    rw [if_neg (by omega), if_neg (by omega), if_pos rfl]
    have e3 : (R.1 * 256 + dgt R.2.1) * 65536 + (a + 1) * 4096 + (b + 1) * 256 + (c + 1) * 16 + 15 = (R.1 * 256 + dgt R.2.1) * 65536 + (a + 1) * 4096 + (b + 1) * 256 + (c + 1) * 16 + 0 + (16 - 1) := by omega
    rw [e3]
    exact K
  · rw [hl] at hc K
    have ha := hc a (by simp)
    have hb := hc b (by simp)
    have hcc := hc c (by simp)
    have hee := hc e (by simp)
    have := cl_val (kc := kc) (d := d) (Q := Q) (M := M) (H := R.1 * 256 + dgt R.2.1) (a := a + 1) (b := b + 1) (c := c + 1) (e := e + 1) ⟨by omega, by omega⟩ ⟨by omega, by omega⟩ ⟨by omega, by omega⟩ ⟨by omega, by omega⟩ ⟨by omega, by omega⟩ (fun h => by omega) (fun h => by omega)
    have e1 : R.1 * 16777216 + dgt R.2.1 * 65536 + cel 0 [a, b, c, e] * ((16 ^ (4 - [a, b, c, e].length) : Nat) : Int) = (R.1 * 256 + dgt R.2.1) * 65536 + (a + 1) * 4096 + (b + 1) * 256 + (c + 1) * 16 + (e + 1) := by
      show R.1 * 16777216 + dgt R.2.1 * 65536 + ((((0 * 16 + (a + 1)) * 16 + (b + 1)) * 16 + (c + 1)) * 16 + (e + 1)) * 1 = _
      omega
    have e2 : ((16 ^ (4 - [a, b, c, e].length) : Nat) : Int) = 1 := rfl
    rw [e1] at K ⊢
    rw [e2] at K
    refine this ?_
    rw [if_neg (by omega), if_neg (by omega), if_neg (by omega)]
    have e3 : (R.1 * 256 + dgt R.2.1) * 65536 + (a + 1) * 4096 + (b + 1) * 256 + (c + 1) * 16 + (e + 1) = (R.1 * 256 + dgt R.2.1) * 65536 + (a + 1) * 4096 + (b + 1) * 256 + (c + 1) * 16 + (e + 1) + (1 - 1) := by omega
    rw [e3]
    exact K
  · rw [hl] at r6
    exact absurd r6 (by simp)
end CLO
