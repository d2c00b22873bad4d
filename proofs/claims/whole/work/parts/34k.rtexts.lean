/-! FORMS: the keys of rules are ordered as their texts. -/
def tNm (R : PR) : List Int := if hasN R.1 = true then 32 :: dgs R.2.1 else []
def tx (R : PR) : List Int := [114, 117, 108, 101, 32] ++ (knm R.1 ++ (tNm R ++ tCl R.2.2))
/-- a rule whose kind has no number has number 0 -/
def pnR (R : PR) : Prop := hasN R.1 = false → R.2.1 = 0
def vR (R : PR) : Prop := pr_ok 9 R ∧ pnR R
theorem tRule_tx {R : PR} : tRule R = 59 :: tx R := by
  unfold tRule tx tNm tCl
  simp only [List.append_assoc, List.cons_append, List.nil_append]
theorem padF_inj : ∀ {n : Nat} {A B : List Int}, cl9 A → cl9 B → A.length ≤ n → B.length ≤ n → padF n A = padF n B → A = B
  | 0, A, B, _, _, ha, hb, _ => by
    rw [List.length_eq_zero_iff.mp (Nat.le_zero.mp ha), List.length_eq_zero_iff.mp (Nat.le_zero.mp hb)]
  | n + 1, [], [], _, _, _, _, _ => rfl
  | n + 1, [], b :: B, ha, hb, _, _, h => by
    have h2 := cl9_t hb
    have h1 := p16 n
    have h3 := padF_b (n := n) ha
    have h4 := padF_b (n := n) h2.2
    rw [padF, padF] at h
    exfalso
    have h5 : (b + 1) * ((16 ^ n : Nat) : Int) ≤ 9 * ((16 ^ n : Nat) : Int) := Int.mul_le_mul_of_nonneg_right (by omega) (by omega)
    omega
  | n + 1, a :: A, [], ha, hb, _, _, h => by
    have h2 := cl9_t ha
    have h1 := p16 n
    have h3 := padF_b (n := n) hb
    have h4 := padF_b (n := n) h2.2
    rw [padF, padF] at h
    exfalso
    have h5 : (a + 1) * ((16 ^ n : Nat) : Int) ≤ 9 * ((16 ^ n : Nat) : Int) := Int.mul_le_mul_of_nonneg_right (by omega) (by omega)
    omega
  | n + 1, a :: A, b :: B, ha, hb, hla, hlb, h => by
    rw [List.length_cons] at hla hlb
    have ha2 := cl9_t ha
    have hb2 := cl9_t hb
    have h1 := p16 n
    have h3 := padF_b (n := n) ha2.2
    have h4 := padF_b (n := n) hb2.2
    rw [padF, padF] at h
    have e : a = b := by
      by_cases e : a = b
      · exact e
      · exfalso
        rcases (by omega : a < b ∨ b < a) with x | x
        · have h5 : (a + 1 + 1) * ((16 ^ n : Nat) : Int) ≤ (b + 1) * ((16 ^ n : Nat) : Int) := Int.mul_le_mul_of_nonneg_right (by omega) (by omega)
          rw [Int.add_mul (a + 1), Int.one_mul] at h5
          omega
        · have h5 : (b + 1 + 1) * ((16 ^ n : Nat) : Int) ≤ (a + 1) * ((16 ^ n : Nat) : Int) := Int.mul_le_mul_of_nonneg_right (by omega) (by omega)
          rw [Int.add_mul (b + 1), Int.one_mul] at h5
          omega
    subst e
    rw [padF_inj (n := n) ha2.2 hb2.2 (by omega) (by omega) (by omega)]
theorem kn_lt : ∀ i j : Fin 8, (i : Nat) < (j : Nat) → ltW (knm ((i : Nat) : Int)) (knm ((j : Nat) : Int)) = true := by decide +kernel
theorem dg_lt : ∀ a b : Fin 100, dgt ((a : Nat) : Int) < dgt ((b : Nat) : Int) → ltW (dgs ((a : Nat) : Int) ++ [32]) (dgs ((b : Nat) : Int) ++ [32]) = true := by decide +kernel
theorem dgt_inj {a b : Int} (ha : 0 ≤ a ∧ a ≤ 99) (hb : 0 ≤ b ∧ b ≤ 99) (h : dgt a = dgt b) : a = b := by
  unfold dgt at h
  split at h <;> split at h <;> omega
theorem vR_c {R : PR} (h : vR R) : cl9 R.2.2 ∧ R.2.2.length ≤ 4 ∧ 1 ≤ R.2.2.length ∧ (0 ≤ R.1 ∧ R.1 < 8) ∧ (0 ≤ R.2.1 ∧ R.2.1 ≤ 99) := by
  obtain ⟨⟨r1, r2, r3, r4, r5, r6, r7, r8⟩, _⟩ := h
  exact ⟨r7, r6, r5, ⟨r1, r2⟩, ⟨r3, r4⟩⟩
theorem ky_pad {R : PR} (h : vR R) : kyR R = (R.1 * 256 + dgt R.2.1) * 65536 + pad 4 R.2.2 := by
  have hc := vR_c h
  have := cel_pad (l := R.2.2) (n := 4) (a := 0) hc.2.1
  unfold kyR
  rw [this]
  omega
theorem cl_pad {R : PR} (h : vR R) : clK R = (R.1 * 256 + dgt R.2.1) * 65536 + padF 4 R.2.2 := by
  have hc := vR_c h
  unfold clK
  rw [ky_pad h, pad_F hc.2.1]
  omega
theorem p16_4 : ((16 ^ 4 : Nat) : Int) = 65536 := rfl
/-- what the high parts of two keys say -/
theorem hi_tx {a b : PR} (ha : vR a) (hb : vR b) (h : a.1 * 256 + dgt a.2.1 < b.1 * 256 + dgt b.2.1) (X Y : List Int) : ltW (tx a ++ X) (tx b ++ Y) = true := by
  obtain ⟨a1, a2, a3, a4, a5⟩ := vR_c ha
  obtain ⟨b1, b2, b3, b4, b5⟩ := vR_c hb
  have da := dgt_b a5
  have db := dgt_b b5
  refine ltW_app ?_
  unfold tx
  refine ltW_pre ?_
  by_cases hk : a.1 < b.1
  · have := kn_lt ⟨a.1.toNat, by omega⟩ ⟨b.1.toNat, by omega⟩ (by dsimp only; omega)
    dsimp only at this
    rw [show ((a.1.toNat : Nat) : Int) = a.1 by omega, show ((b.1.toNat : Nat) : Int) = b.1 by omega] at this
    exact ltW_app this
  · have e : a.1 = b.1 := by omega
    have hd : dgt a.2.1 < dgt b.2.1 := by omega
    rw [e]
    refine ltW_pre ?_
    have hh : hasN b.1 = true := by
      cases hx : hasN b.1 with
      | true => rfl
      | false =>
        have x1 := hb.2 hx
        have x2 := ha.2 (by rw [e]; exact hx)
        rw [x1, x2] at hd
        omega
    unfold tNm
    rw [e, if_pos hh, if_pos hh]
    have := dg_lt ⟨a.2.1.toNat, by omega⟩ ⟨b.2.1.toNat, by omega⟩
    dsimp only at this
    rw [show ((a.2.1.toNat : Nat) : Int) = a.2.1 by omega, show ((b.2.1.toNat : Nat) : Int) = b.2.1 by omega] at this
    have this := this hd
    have sp : ∀ R : PR, cl9 R.2.2 → 1 ≤ R.2.2.length → ∃ Y, tCl R.2.2 = 32 :: Y := fun R h1 h2 => by
      rcases hl : R.2.2 with _ | ⟨c, l⟩
      · rw [hl] at h2
        exact absurd h2 (by decide)
      · rw [hl] at h1
        rw [tCl_cons (cl9_t h1).1]
        exact ⟨_, rfl⟩
    obtain ⟨Ya, ya⟩ := sp a a1 a3
    obtain ⟨Yb, yb⟩ := sp b b1 b3
    rw [ya, yb, List.cons_append, List.cons_append, ltW, if_pos rfl]
    have e1 : dgs a.2.1 ++ 32 :: Ya = dgs a.2.1 ++ [32] ++ Ya := by rw [List.append_assoc]; rfl
    have e2 : dgs b.2.1 ++ 32 :: Yb = dgs b.2.1 ++ [32] ++ Yb := by rw [List.append_assoc]; rfl
    rw [e1, e2]
    exact ltW_app this
theorem lo_tx {a b : PR} (ha : vR a) (hb : vR b) (h : a.1 * 256 + dgt a.2.1 = b.1 * 256 + dgt b.2.1) : a.1 = b.1 ∧ a.2.1 = b.2.1 := by
  obtain ⟨a1, a2, a3, a4, a5⟩ := vR_c ha
  obtain ⟨b1, b2, b3, b4, b5⟩ := vR_c hb
  have da := dgt_b a5
  have db := dgt_b b5
  have e : a.1 = b.1 := by omega
  exact ⟨e, dgt_inj a5 b5 (by omega)⟩
/-- the text as two pieces -/
def txP (R : PR) : List Int := [114, 117, 108, 101, 32] ++ (knm R.1 ++ tNm R)
theorem tx_P {R : PR} : tx R = txP R ++ tCl R.2.2 := by
  unfold tx txP
  rw [List.append_assoc, List.append_assoc]
theorem txP_eq {a b : PR} (h1 : a.1 = b.1) (h2 : a.2.1 = b.2.1) : txP a = txP b := by
  unfold txP tNm
  rw [h1, h2]
theorem ky_tx {a b : PR} (ha : vR a) (hb : vR b) (h : kyR a < kyR b) : ltW (tx a) (tx b) = true ∨ ∃ X, X ≠ [] ∧ tx b = tx a ++ X := by
  obtain ⟨a1, a2, _⟩ := vR_c ha
  obtain ⟨b1, b2, _⟩ := vR_c hb
  rw [ky_pad ha, ky_pad hb, ← p16_4] at h
  rcases dig_lt (by decide) (pad_b a1) (pad_b b1) h with x | ⟨x, y⟩
  · have := hi_tx ha hb x [] []
    rw [List.append_nil, List.append_nil] at this
    exact Or.inl this
  · obtain ⟨e1, e2⟩ := lo_tx ha hb x
    rw [tx_P, tx_P, txP_eq e1 e2]
    rcases pad_lt a1 b1 a2 b2 y with z | ⟨X, z1, z2⟩
    · exact Or.inl (ltW_pre z)
    · exact Or.inr ⟨X, z1, by rw [z2, List.append_assoc]⟩
theorem cl_tx {a b : PR} {La Lb : List Int} (ha : vR a) (hb : vR b) (sa : semi La) (sb : semi Lb) (h : clK a < clK b) : ltW (tx a ++ La) (tx b ++ Lb) = true ∨ (tx b ++ Lb).length < (tx a ++ La).length := by
  obtain ⟨a1, a2, _⟩ := vR_c ha
  obtain ⟨b1, b2, _⟩ := vR_c hb
  rw [cl_pad ha, cl_pad hb, ← p16_4] at h
  rcases dig_lt (by decide) (padF_b a1) (padF_b b1) h with x | ⟨x, y⟩
  · exact Or.inl (hi_tx ha hb x La Lb)
  · obtain ⟨e1, e2⟩ := lo_tx ha hb x
    rw [tx_P, tx_P, txP_eq e1 e2, List.append_assoc, List.append_assoc]
    rcases padF_lt a1 b1 a2 b2 sa sb y with z | z
    · exact Or.inl (ltW_pre z)
    · right
      rw [List.length_append, List.length_append (as := txP b)]
      omega
theorem dig_eq {a b x y P : Int} (hP : 1 ≤ P) (hx : 0 ≤ x ∧ x < P) (hy : 0 ≤ y ∧ y < P) (h : a * P + x = b * P + y) : a = b ∧ x = y := by
  by_cases e : a = b
  · subst e
    exact ⟨rfl, by omega⟩
  · exfalso
    rcases (by omega : a < b ∨ b < a) with l | l
    · have h1 : (a + 1) * P ≤ b * P := Int.mul_le_mul_of_nonneg_right (by omega) (by omega)
      rw [Int.add_mul, Int.one_mul] at h1
      omega
    · have h1 : (b + 1) * P ≤ a * P := Int.mul_le_mul_of_nonneg_right (by omega) (by omega)
      rw [Int.add_mul, Int.one_mul] at h1
      omega
theorem ky_inj {a b : PR} (ha : vR a) (hb : vR b) (h : kyR a = kyR b) : a = b := by
  obtain ⟨a1, a2, _⟩ := vR_c ha
  obtain ⟨b1, b2, _⟩ := vR_c hb
  rw [ky_pad ha, ky_pad hb, ← p16_4] at h
  obtain ⟨x, y⟩ := dig_eq (by decide) (pad_b a1) (pad_b b1) h
  obtain ⟨e1, e2⟩ := lo_tx ha hb x
  have e3 := pad_inj a1 b1 a2 b2 y
  exact Prod.ext e1 (Prod.ext e2 e3)
theorem cl_inj {a b : PR} (ha : vR a) (hb : vR b) (h : clK a = clK b) : a = b := by
  obtain ⟨a1, a2, _⟩ := vR_c ha
  obtain ⟨b1, b2, _⟩ := vR_c hb
  rw [cl_pad ha, cl_pad hb, ← p16_4] at h
  obtain ⟨x, y⟩ := dig_eq (by decide) (padF_b a1) (padF_b b1) h
  obtain ⟨e1, e2⟩ := lo_tx ha hb x
  have e3 := padF_inj a1 b1 a2 b2 y
  exact Prod.ext e1 (Prod.ext e2 e3)
