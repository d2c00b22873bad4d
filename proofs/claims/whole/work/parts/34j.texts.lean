/-! FORMS: keys are ordered as texts are. -/
/-- less by the first place where they differ, within both -/
def ltW : List Int → List Int → Bool
  | a :: A, b :: B => if a = b then ltW A B else decide (a < b)
  | _, _ => false
theorem ltW_app : ∀ {A B X Y : List Int}, ltW A B = true → ltW (A ++ X) (B ++ Y) = true
  | [], _, _, _, h => by cases h
  | _ :: _, [], _, _, h => by cases h
  | a :: A, b :: B, X, Y, h => by
    rw [ltW] at h
    rw [List.cons_append, List.cons_append, ltW]
    by_cases e : a = b
    · rw [if_pos e] at h ⊢
      exact ltW_app h
    · rw [if_neg e] at h ⊢
      exact h
theorem ltW_pre : ∀ {P A B : List Int}, ltW A B = true → ltW (P ++ A) (P ++ B) = true
  | [], _, _, h => h
  | p :: P, A, B, h => by
    rw [List.cons_append, List.cons_append, ltW, if_pos rfl]
    exact ltW_pre h
theorem ltW_ne : ∀ {A B : List Int}, ltW A B = true → ltW B A = false ∧ A ≠ B
  | [], _, h => by cases h
  | _ :: _, [], h => by cases h
  | a :: A, b :: B, h => by
    rw [ltW] at h
    rw [ltW]
    by_cases e : a = b
    · rw [if_pos e] at h
      rw [if_pos e.symm]
      have ih := ltW_ne h
      exact ⟨ih.1, fun x => ih.2 (List.cons.inj x).2⟩
    · rw [if_neg e] at h
      have h1 := of_decide_eq_true h
      rw [if_neg (fun x => e x.symm)]
      exact ⟨decide_eq_false (by omega), fun x => e (List.cons.inj x).1⟩
/-- lists of one length: one is less, or they are alike -/
theorem ltW_tri : ∀ {A B : List Int}, A.length = B.length → ltW A B = true ∨ ltW B A = true ∨ A = B
  | [], [], _ => Or.inr (Or.inr rfl)
  | [], _ :: _, h => by
    rw [List.length_cons] at h
    cases h
  | _ :: _, [], h => by
    rw [List.length_cons] at h
    cases h
  | a :: A, b :: B, h => by
    rw [List.length_cons, List.length_cons] at h
    rw [ltW, ltW]
    by_cases e : a = b
    · rw [if_pos e, if_pos e.symm]
      rcases ltW_tri (A := A) (B := B) (by omega) with x | x | x
      · exact Or.inl x
      · exact Or.inr (Or.inl x)
      · exact Or.inr (Or.inr (by rw [e, x]))
    · rw [if_neg e, if_neg (fun x => e x.symm)]
      by_cases hl : a < b
      · exact Or.inl (decide_eq_true hl)
      · exact Or.inr (Or.inl (decide_eq_true (by omega)))
theorem ltW_tr : ∀ {A B C : List Int}, ltW A B = true → ltW B C = true → ltW A C = true
  | [], _, _, h, _ => by cases h
  | _ :: _, [], _, h, _ => by cases h
  | _ :: _, _ :: _, [], _, h => by cases h
  | a :: A, b :: B, c :: C, h1, h2 => by
    rw [ltW] at h1 h2 ⊢
    by_cases e1 : a = b
    · rw [if_pos e1] at h1
      by_cases e2 : b = c
      · rw [if_pos e2] at h2
        rw [if_pos (e1.trans e2)]
        exact ltW_tr h1 h2
      · rw [if_neg e2] at h2
        rw [if_neg (fun x => e2 (e1.symm.trans x)), e1]
        exact h2
    · rw [if_neg e1] at h1
      have l1 := of_decide_eq_true h1
      by_cases e2 : b = c
      · rw [if_neg (fun x => e1 (x.trans e2.symm)), ← e2]
        exact h1
      · rw [if_neg e2] at h2
        have l2 := of_decide_eq_true h2
        rw [if_neg (by omega)]
        exact decide_eq_true (by omega)
/-- cells as a number: so many places, none is 0 -/
def pad : Nat → List Int → Int
  | 0, _ => 0
  | _ + 1, [] => 0
  | n + 1, a :: A => (a + 1) * ((16 ^ n : Nat) : Int) + pad n A
/-- the same, none is 15 -/
def padF : Nat → List Int → Int
  | 0, _ => 0
  | n + 1, [] => 15 * ((16 ^ n : Nat) : Int) + padF n []
  | n + 1, a :: A => (a + 1) * ((16 ^ n : Nat) : Int) + padF n A
def cl9 (A : List Int) : Prop := ∀ c ∈ A, 0 ≤ c ∧ c < 9
theorem cl9_t {a : Int} {A : List Int} (h : cl9 (a :: A)) : (0 ≤ a ∧ a < 9) ∧ cl9 A := ⟨h a (List.mem_cons_self ..), fun c hc => h c (List.mem_cons_of_mem _ hc)⟩
theorem p16 (n : Nat) : 1 ≤ ((16 ^ n : Nat) : Int) ∧ ((16 ^ (n + 1) : Nat) : Int) = 16 * ((16 ^ n : Nat) : Int) := by
  have h := Nat.pow_pos (n := n) (show 0 < 16 by decide)
  refine ⟨by omega, ?_⟩
  rw [Nat.pow_succ, Int.natCast_mul, Int.mul_comm]
  rfl
theorem pad_b : ∀ {n : Nat} {A : List Int}, cl9 A → 0 ≤ pad n A ∧ pad n A < ((16 ^ n : Nat) : Int)
  | 0, _, _ => by
    rw [pad]
    decide
  | n + 1, [], _ => by
    have := p16 n
    rw [pad]
    omega
  | n + 1, a :: A, h => by
    have h1 := p16 n
    have h2 := cl9_t h
    have ih := pad_b (n := n) h2.2
    rw [pad, h1.2]
    generalize ((16 ^ n : Nat) : Int) = P at h1 ih ⊢
    have h3 : (a + 1) * P ≤ 9 * P := Int.mul_le_mul_of_nonneg_right (by omega) (by omega)
    have h4 : 0 ≤ (a + 1) * P := Int.mul_nonneg (by omega) (by omega)
    omega
theorem padF_b : ∀ {n : Nat} {A : List Int}, cl9 A → 0 ≤ padF n A ∧ padF n A < ((16 ^ n : Nat) : Int)
  | 0, _, _ => by
    rw [padF]
    decide
  | n + 1, [], h => by
    have h1 := p16 n
    have ih := padF_b (n := n) h
    rw [padF]
    omega
  | n + 1, a :: A, h => by
    have h1 := p16 n
    have h2 := cl9_t h
    have ih := padF_b (n := n) h2.2
    rw [padF, h1.2]
    generalize ((16 ^ n : Nat) : Int) = P at h1 ih ⊢
    have h3 : (a + 1) * P ≤ 9 * P := Int.mul_le_mul_of_nonneg_right (by omega) (by omega)
    have h4 : 0 ≤ (a + 1) * P := Int.mul_nonneg (by omega) (by omega)
    omega
/-- two digits: which is less -/
theorem dig_lt {a b x y P : Int} (hP : 1 ≤ P) (hx : 0 ≤ x ∧ x < P) (hy : 0 ≤ y ∧ y < P) : a * P + x < b * P + y → a < b ∨ (a = b ∧ x < y) := by
  intro h
  by_cases e : a = b
  · right
    subst e
    exact ⟨rfl, by omega⟩
  · left
    by_cases hl : a < b
    · exact hl
    · exfalso
      have h1 : (b + 1) * P ≤ a * P := Int.mul_le_mul_of_nonneg_right (by omega) (by omega)
      rw [Int.add_mul, Int.one_mul] at h1
      omega
/-- cells as they are said -/
def tCl (A : List Int) : List Int := A.flatMap (fun c => 32 :: dgs c)
theorem tCl_cons {a : Int} {A : List Int} (h : 0 ≤ a ∧ a < 9) : tCl (a :: A) = 32 :: (48 + a) :: tCl A := by
  unfold tCl
  rw [List.flatMap_cons, dgs_1 ⟨h.1, by omega⟩]
  rfl
theorem tCl_len {A : List Int} (h : cl9 A) : (tCl A).length = 2 * A.length := by
  induction A with
  | nil => rfl
  | cons a A ih =>
    have h2 := cl9_t h
    rw [tCl_cons h2.1, List.length_cons, List.length_cons, List.length_cons, ih h2.2]
    omega
/-- by the keys: less, or the beginning of the other -/
theorem pad_lt : ∀ {n : Nat} {A B : List Int}, cl9 A → cl9 B → A.length ≤ n → B.length ≤ n → pad n A < pad n B → ltW (tCl A) (tCl B) = true ∨ ∃ X, X ≠ [] ∧ tCl B = tCl A ++ X
  | 0, A, B, _, _, _, _, h => by
    rw [pad, pad] at h
    omega
  | n + 1, [], [], _, _, _, _, h => by omega
  | n + 1, [], b :: B, _, hb, _, _, _ => by
    have h2 := cl9_t hb
    right
    refine ⟨tCl (b :: B), ?_, rfl⟩
    rw [tCl_cons h2.1]
    exact List.cons_ne_nil _ _
  | n + 1, a :: A, [], ha, _, _, _, h => by
    have h0 := (pad_b (n := n + 1) ha).1
    have e : pad (n + 1) [] = 0 := rfl
    rw [e] at h
    exfalso
    omega
  | n + 1, a :: A, b :: B, ha, hb, hla, hlb, h => by
    rw [List.length_cons] at hla hlb
    have ha2 := cl9_t ha
    have hb2 := cl9_t hb
    rw [pad, pad] at h
    rw [tCl_cons ha2.1, tCl_cons hb2.1, ltW, if_pos rfl, ltW]
    rcases dig_lt (p16 n).1 (pad_b ha2.2) (pad_b hb2.2) h with x | ⟨x, y⟩
    · left
      rw [if_neg (by omega)]
      exact decide_eq_true (by omega)
    · have e : a = b := by omega
      subst e
      rw [if_pos rfl]
      rcases pad_lt ha2.2 hb2.2 (by omega) (by omega) y with z | ⟨X, z1, z2⟩
      · exact Or.inl z
      · exact Or.inr ⟨X, z1, by rw [z2]; rfl⟩
/-- by the closed keys, with what follows -/
theorem padF_lt : ∀ {n : Nat} {A B La Lb : List Int}, cl9 A → cl9 B → A.length ≤ n → B.length ≤ n → semi La → semi Lb → padF n A < padF n B → ltW (tCl A ++ La) (tCl B ++ Lb) = true ∨ (tCl B ++ Lb).length < (tCl A ++ La).length
  | 0, A, B, _, _, _, _, _, _, _, _, h => by
    rw [padF, padF] at h
    omega
  | n + 1, [], [], _, _, _, _, _, _, _, _, h => by omega
  | n + 1, [], b :: B, _, _, ha, hb, _, _, _, _, h => by
    have h2 := cl9_t hb
    have h1 := p16 n
    have h3 := (padF_b (n := n) ha).1
    have h4 := padF_b (n := n) h2.2
    rw [padF, padF] at h
    exfalso
    have h5 : (b + 1) * ((16 ^ n : Nat) : Int) ≤ 9 * ((16 ^ n : Nat) : Int) := Int.mul_le_mul_of_nonneg_right (by omega) (by omega)
    omega
  | n + 1, a :: A, [], La, Lb, ha, _, _, _, _, hb, _ => by
    have h2 := cl9_t ha
    rw [tCl_cons h2.1]
    cases Lb with
    | nil =>
      right
      show 0 < _
      rw [List.cons_append, List.length_cons]
      omega
    | cons c R =>
      left
      have := hb c R rfl
      subst this
      show ltW (32 :: _) (59 :: R) = true
      rw [ltW, if_neg (by decide)]
      rfl
  | n + 1, a :: A, b :: B, La, Lb, ha, hb, hla, hlb, sa, sb, h => by
    rw [List.length_cons] at hla hlb
    have ha2 := cl9_t ha
    have hb2 := cl9_t hb
    rw [padF, padF] at h
    rw [tCl_cons ha2.1, tCl_cons hb2.1, List.cons_append, List.cons_append, List.cons_append, List.cons_append, ltW, if_pos rfl, ltW]
    rcases dig_lt (p16 n).1 (padF_b ha2.2) (padF_b hb2.2) h with x | ⟨x, y⟩
    · left
      rw [if_neg (by omega)]
      exact decide_eq_true (by omega)
    · have e : a = b := by omega
      subst e
      rw [if_pos rfl, List.length_cons, List.length_cons, List.length_cons, List.length_cons]
      rcases padF_lt (La := La) (Lb := Lb) ha2.2 hb2.2 (by omega) (by omega) sa sb y with z | z
      · exact Or.inl z
      · exact Or.inr (by omega)
theorem pad_inj : ∀ {n : Nat} {A B : List Int}, cl9 A → cl9 B → A.length ≤ n → B.length ≤ n → pad n A = pad n B → A = B
  | 0, A, B, _, _, ha, hb, _ => by
    rw [List.length_eq_zero_iff.mp (Nat.le_zero.mp ha), List.length_eq_zero_iff.mp (Nat.le_zero.mp hb)]
  | n + 1, [], [], _, _, _, _, _ => rfl
  | n + 1, [], b :: B, _, hb, _, _, h => by
    have h2 := cl9_t hb
    have h1 := p16 n
    have h4 := pad_b (n := n) h2.2
    rw [pad, pad] at h
    exfalso
    have h5 : 1 * ((16 ^ n : Nat) : Int) ≤ (b + 1) * ((16 ^ n : Nat) : Int) := Int.mul_le_mul_of_nonneg_right (by omega) (by omega)
    omega
  | n + 1, a :: A, [], ha, _, _, _, h => by
    have h2 := cl9_t ha
    have h1 := p16 n
    have h4 := pad_b (n := n) h2.2
    rw [pad, pad] at h
    exfalso
    have h5 : 1 * ((16 ^ n : Nat) : Int) ≤ (a + 1) * ((16 ^ n : Nat) : Int) := Int.mul_le_mul_of_nonneg_right (by omega) (by omega)
    omega
  | n + 1, a :: A, b :: B, ha, hb, hla, hlb, h => by
    rw [List.length_cons] at hla hlb
    have ha2 := cl9_t ha
    have hb2 := cl9_t hb
    have h1 := p16 n
    have h3 := pad_b (n := n) ha2.2
    have h4 := pad_b (n := n) hb2.2
    rw [pad, pad] at h
    have e : a = b := by
      by_cases e : a = b
      · exact e
      · exfalso
        rcases (by omega : a < b ∨ b < a) with x | x
        · have h5 : (a + 1 + 1) * ((16 ^ n : Nat) : Int) ≤ (b + 1) * ((16 ^ n : Nat) : Int) := Int.mul_le_mul_of_nonneg_right (by omega) (by omega)
          rw [Int.add_mul (a + 1), Int.one_mul] at h5
          omega
        · have h5 : (b + 1 + 1) * ((16 ^ n : Nat) : Int) ≤ (a + 1) * ((16 ^ n : Nat) : Int) := Int.mul_le_mul_of_nonneg_right (by omega) (by omega)
          rw [Int.add_mul (b + 1), Int.one_mul] at h5
          omega
    subst e
    rw [pad_inj (n := n) ha2.2 hb2.2 (by omega) (by omega) (by omega)]
theorem cel_pad : ∀ {l : List Int} {n : Nat} {a : Int}, l.length ≤ n → cel a l * ((16 ^ (n - l.length) : Nat) : Int) = a * ((16 ^ n : Nat) : Int) + pad n l
  | [], n, a, _ => by
    show a * ((16 ^ (n - 0) : Nat) : Int) = _
    have e : pad n [] = 0 := by
      cases n <;> rfl
    rw [e, Nat.sub_zero, Int.add_zero]
  | c :: l, 0, a, h => by
    rw [List.length_cons] at h
    omega
  | c :: l, n + 1, a, h => by
    rw [List.length_cons] at h
    have ih := cel_pad (l := l) (n := n) (a := a * 16 + (c + 1)) (by omega)
    have h1 := p16 n
    rw [List.length_cons, show n + 1 - (l.length + 1) = n - l.length by omega, pad, h1.2]
    show cel (a * 16 + (c + 1)) l * _ = _
    rw [ih, Int.add_mul, Int.mul_assoc, Int.add_assoc]
theorem pad_F : ∀ {l : List Int} {n : Nat}, l.length ≤ n → padF n l = pad n l + (((16 ^ (n - l.length) : Nat) : Int) - 1)
  | [], 0, _ => rfl
  | [], n + 1, _ => by
    have ih := pad_F (l := []) (n := n) (Nat.zero_le _)
    have h1 := p16 n
    have e : pad n [] = 0 := by
      cases n <;> rfl
    rw [padF, ih, e, List.length_nil, Nat.sub_zero, Nat.sub_zero, h1.2]
    show _ = 0 + _
    omega
  | c :: l, 0, h => by
    rw [List.length_cons] at h
    omega
  | c :: l, n + 1, h => by
    rw [List.length_cons] at h
    rw [padF, pad, pad_F (l := l) (n := n) (by omega), List.length_cons, show n + 1 - (l.length + 1) = n - l.length by omega]
    omega
