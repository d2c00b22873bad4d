/-! FORMS: what is less by keys and numbers is less as a text. -/
def gsm (L : List Int) : Prop := L = [] ∨ ∃ X, L = 59 :: 103 :: X
theorem gsm_semi {L : List Int} (h : gsm L) : semi L := fun c R e => by
  rcases h with h | ⟨X, h⟩
  · rw [h] at e
    cases e
  · rw [h] at e
    cases e
    rfl
theorem cmpL_lt : ∀ {S T : List PR} {La Lb : List Int}, (∀ x ∈ S, vR x) → (∀ x ∈ T, vR x) → gsm La → gsm Lb → (S.flatMap tRule ++ La).length = (T.flatMap tRule ++ Lb).length → cmpL S T < 0 → ltW (S.flatMap tRule ++ La) (T.flatMap tRule ++ Lb) = true
  | [], [], _, _, _, _, _, _, _, h => by
    exact absurd h (by decide)
  | [], b :: T, La, Lb, _, _, ga, _, hl, _ => by
    rw [List.flatMap_cons, List.append_assoc, tRule_tx] at hl ⊢
    rcases ga with e | ⟨X, e⟩
    · rw [e, List.cons_append, List.length_cons] at hl
      exact absurd hl (by show ¬ (0 = _ + 1); omega)
    · rw [e]
      show ltW (59 :: 103 :: X) (59 :: 114 :: _) = true
      rw [ltW, if_pos rfl, ltW, if_neg (by decide)]
      rfl
  | a :: S, [], _, _, _, _, _, _, _, h => by
    have e : cmpL (a :: S) [] = cmp3 ((a :: S).length : Nat) (([] : List PR).length : Nat) := rfl
    rw [e] at h
    unfold cmp3 at h
    rw [List.length_cons, List.length_nil, if_neg (by omega), if_neg (by omega)] at h
    omega
  | a :: S, b :: T, La, Lb, vS, vT, ga, gb, hl, h => by
    have va := vS a (List.mem_cons_self ..)
    have vb := vT b (List.mem_cons_self ..)
    rw [cmpL] at h
    rw [List.flatMap_cons, List.flatMap_cons, List.append_assoc, List.append_assoc] at hl ⊢
    by_cases e : a = b
    · rw [if_pos e] at h
      subst e
      rw [List.length_append, List.length_append (as := tRule a)] at hl
      exact ltW_pre (cmpL_lt (fun x hx => vS x (List.mem_cons_of_mem _ hx)) (fun x hx => vT x (List.mem_cons_of_mem _ hx)) ga gb (by omega) h)
    · rw [if_neg e] at h
      have hc : clK a < clK b := by
        unfold cmp3 at h
        by_cases x : clK a < clK b
        · exact x
        · rw [if_neg x] at h
          split at h <;> omega
      rw [tRule_tx, tRule_tx, List.cons_append, List.cons_append, List.length_cons, List.length_cons] at hl
      rw [tRule_tx, tRule_tx, List.cons_append, List.cons_append, ltW, if_pos rfl]
      rcases cl_tx va vb (semi_rules (gsm_semi ga) S) (semi_rules (gsm_semi gb) T) hc with x | x
      · exact x
      · omega
theorem cmpL_0 : ∀ {S T : List PR}, (∀ x ∈ S, vR x) → (∀ x ∈ T, vR x) → cmpL S T = 0 → S = T
  | [], [], _, _, _ => rfl
  | [], b :: T, _, _, h => by
    have e : cmpL [] (b :: T) = cmp3 (([] : List PR).length : Nat) ((b :: T).length : Nat) := rfl
    rw [e] at h
    unfold cmp3 at h
    rw [List.length_cons, List.length_nil, if_pos (by omega)] at h
    omega
  | a :: S, [], _, _, h => by
    have e : cmpL (a :: S) [] = cmp3 ((a :: S).length : Nat) (([] : List PR).length : Nat) := rfl
    rw [e] at h
    unfold cmp3 at h
    rw [List.length_cons, List.length_nil, if_neg (by omega), if_neg (by omega)] at h
    omega
  | a :: S, b :: T, vS, vT, h => by
    rw [cmpL] at h
    by_cases e : a = b
    · rw [if_pos e] at h
      rw [e, cmpL_0 (fun x hx => vS x (List.mem_cons_of_mem _ hx)) (fun x hx => vT x (List.mem_cons_of_mem _ hx)) h]
    · rw [if_neg e] at h
      exfalso
      unfold cmp3 at h
      split at h
      · omega
      · split at h
        · rename_i hc
          exact e (cl_inj (vS a (List.mem_cons_self ..)) (vT b (List.mem_cons_self ..)) hc)
        · omega
theorem cmpL_gt : ∀ {S T : List PR}, 0 < cmpL S T → cmpL T S < 0
  | [], [], h => absurd h (by decide)
  | [], b :: T, h => by
    have e : cmpL [] (b :: T) = cmp3 (([] : List PR).length : Nat) ((b :: T).length : Nat) := rfl
    rw [e] at h
    unfold cmp3 at h
    rw [List.length_cons, List.length_nil, if_pos (by omega)] at h
    omega
  | a :: S, [], h => by
    have e : cmpL [] (a :: S) = cmp3 (([] : List PR).length : Nat) ((a :: S).length : Nat) := rfl
    rw [e]
    unfold cmp3
    rw [List.length_cons, List.length_nil, if_pos (by omega)]
    decide
  | a :: S, b :: T, h => by
    rw [cmpL] at h ⊢
    by_cases e : a = b
    · rw [if_pos e] at h
      rw [if_pos e.symm]
      exact cmpL_gt h
    · rw [if_neg e] at h
      rw [if_neg (fun x => e x.symm)]
      unfold cmp3 at h ⊢
      split at h
      · omega
      · split at h
        · omega
        · rw [if_pos (by omega)]
          decide
/-- the givens from cell c on, as they are said -/
def gtx : Nat → List Int → List Int
  | _, [] => []
  | c, a :: A => (if 0 ≤ a then [59, 103, 105, 118, 101, 32] ++ dgs c ++ 32 :: dgs a else []) ++ gtx (c + 1) A
def gv9 (A : List Int) : Prop := ∀ y ∈ A, -1 ≤ y ∧ y < 10
theorem gv9_t {a : Int} {A : List Int} (h : gv9 (a :: A)) : (-1 ≤ a ∧ a < 10) ∧ gv9 A := ⟨h a (List.mem_cons_self ..), fun c hc => h c (List.mem_cons_of_mem _ hc)⟩
theorem gtx_at : ∀ {A : List Int} {c : Nat}, c + A.length ≤ 9 → gtx c A = [] ∨ ∃ (q : Nat) (X : List Int), c ≤ q ∧ q < 9 ∧ gtx c A = 59 :: 103 :: 105 :: 118 :: 101 :: 32 :: (48 + (q : Int)) :: X
  | [], _, _ => Or.inl rfl
  | a :: A, c, h => by
    rw [List.length_cons] at h
    rw [gtx]
    by_cases h0 : 0 ≤ a
    · right
      refine ⟨c, (32 :: dgs a) ++ gtx (c + 1) A, Nat.le_refl _, by omega, ?_⟩
      rw [if_pos h0, dgs_1 (s := (c : Int)) ⟨by omega, by omega⟩]
      rfl
    · rw [if_neg h0, List.nil_append]
      rcases gtx_at (A := A) (c := c + 1) (by omega) with e | ⟨q, X, q1, q2, q3⟩
      · exact Or.inl e
      · exact Or.inr ⟨q, X, by omega, q2, q3⟩
theorem gtx_gsm {A : List Int} {c : Nat} (h : c + A.length ≤ 9) : gsm (gtx c A) := by
  rcases gtx_at h with e | ⟨q, X, _, _, e⟩
  · exact Or.inl e
  · exact Or.inr ⟨_, e⟩
theorem gnb_b {a : Int} (h : -1 ≤ a ∧ a < 10) : 0 ≤ gnb a ∧ gnb a < 16 := by
  unfold gnb
  split <;> omega
theorem gP_b : ∀ {n : Nat} {A : List Int}, gv9 A → 0 ≤ gP n A ∧ gP n A < ((16 ^ n : Nat) : Int)
  | 0, _, _ => by
    rw [gP]
    decide
  | n + 1, [], _ => by
    have := p16 n
    rw [gP]
    omega
  | n + 1, a :: A, h => by
    have h1 := p16 n
    have h2 := gv9_t h
    have h5 := gnb_b h2.1
    have ih := gP_b (n := n) h2.2
    rw [gP, h1.2]
    generalize ((16 ^ n : Nat) : Int) = P at h1 ih ⊢
    have h3 : gnb a * P ≤ 15 * P := Int.mul_le_mul_of_nonneg_right (by omega) (by omega)
    have h4 : 0 ≤ gnb a * P := Int.mul_nonneg (by omega) (by omega)
    omega
theorem gP_lt : ∀ {n : Nat} {A B : List Int} {c : Nat}, gv9 A → gv9 B → A.length = n → B.length = n → c + n ≤ 9 → (gtx c A).length = (gtx c B).length → gP n A < gP n B → ltW (gtx c A) (gtx c B) = true
  | 0, A, B, _, _, _, _, _, _, _, h => by
    rw [gP, gP] at h
    omega
  | n + 1, [], _, _, _, _, ha, _, _, _, _ => by cases ha
  | n + 1, _ :: _, [], _, _, _, _, hb, _, _, _ => by cases hb
  | n + 1, a :: A, b :: B, c, ha, hb, hla, hlb, hc, hl, h => by
    rw [List.length_cons] at hla hlb
    have ha2 := gv9_t ha
    have hb2 := gv9_t hb
    rw [gP, gP] at h
    rw [gtx, gtx] at hl ⊢
    rcases dig_lt (p16 n).1 (gP_b ha2.2) (gP_b hb2.2) h with x | ⟨x, y⟩
    · have ha0 : 0 ≤ a := by
        unfold gnb at x
        by_cases h0 : a < 0
        · rw [if_pos h0] at x
          split at x <;> omega
        · omega
      rw [if_pos ha0, dgs_1 (s := (c : Int)) ⟨by omega, by omega⟩, dgs_1 (s := a) ⟨ha0, ha2.1.2⟩] at hl ⊢
      by_cases hb0 : 0 ≤ b
      · rw [if_pos hb0, dgs_1 (s := b) ⟨hb0, hb2.1.2⟩]
        have hab : a < b := by
          unfold gnb at x
          rw [if_neg (by omega), if_neg (by omega)] at x
          exact x
        refine ltW_app ?_
        show ltW (59 :: 103 :: 105 :: 118 :: 101 :: 32 :: (48 + (c : Int)) :: 32 :: [48 + a]) (59 :: 103 :: 105 :: 118 :: 101 :: 32 :: (48 + (c : Int)) :: 32 :: [48 + b]) = true
        rw [ltW, if_pos rfl, ltW, if_pos rfl, ltW, if_pos rfl, ltW, if_pos rfl, ltW, if_pos rfl, ltW, if_pos rfl, ltW, if_pos rfl, ltW, if_pos rfl, ltW, if_neg (by omega)]
        exact decide_eq_true (by omega)
      · rw [if_neg hb0, List.nil_append] at hl ⊢
        rcases gtx_at (A := B) (c := c + 1) (by omega) with e | ⟨q, X, q1, q2, q3⟩
        · rw [e, List.length_append] at hl
          exact absurd hl (by show ¬ (9 + _ = 0); omega)
        · rw [q3]
          show ltW (59 :: 103 :: 105 :: 118 :: 101 :: 32 :: (48 + (c : Int)) :: _) (59 :: 103 :: 105 :: 118 :: 101 :: 32 :: (48 + (q : Int)) :: X) = true
          rw [ltW, if_pos rfl, ltW, if_pos rfl, ltW, if_pos rfl, ltW, if_pos rfl, ltW, if_pos rfl, ltW, if_pos rfl, ltW, if_neg (by omega)]
          exact decide_eq_true (by omega)
    · have e : a = b := by
        unfold gnb at x
        split at x <;> split at x <;> omega
      subst e
      rw [List.length_append, List.length_append (bs := gtx (c + 1) B)] at hl
      exact ltW_pre (gP_lt ha2.2 hb2.2 (by omega) (by omega) (by omega) (by omega) y)
theorem gP_inj : ∀ {n : Nat} {A B : List Int}, gv9 A → gv9 B → A.length = n → B.length = n → gP n A = gP n B → A = B
  | 0, A, B, _, _, ha, hb, _ => by
    rw [List.length_eq_zero_iff.mp ha, List.length_eq_zero_iff.mp hb]
  | n + 1, [], _, _, _, ha, _, _ => by cases ha
  | n + 1, _ :: _, [], _, _, _, hb, _ => by cases hb
  | n + 1, a :: A, b :: B, ha, hb, hla, hlb, h => by
    rw [List.length_cons] at hla hlb
    have ha2 := gv9_t ha
    have hb2 := gv9_t hb
    rw [gP, gP] at h
    obtain ⟨x, y⟩ := dig_eq (p16 n).1 (gP_b ha2.2) (gP_b hb2.2) h
    have e : a = b := by
      unfold gnb at x
      split at x <;> split at x <;> omega
    rw [e, gP_inj (n := n) ha2.2 hb2.2 (by omega) (by omega) y]
theorem gtx_range {Y : PZ} (ho : pz_ok Y) : (List.range (Y.1 * Y.2.1).toNat).flatMap (tGive Y) = gtx 0 Y.2.2.2.2 := by
  have h9 := pz_n ho
  have hl := ho.2.2.2.2.2.2.2.2.1
  have hend := ho.2.2.2.2.2.2.2.2.2.2
  have g1 : ∀ (u c : Nat), c + u = 9 → (Y.1 * Y.2.1 ≤ (c : Int)) → gtx c (Y.2.2.2.2.drop c) = [] := by
    intro u
    induction u with
    | zero =>
      intro c hc _
      rw [List.drop_eq_nil_of_le (by omega), gtx]
    | succ u ih =>
      intro c hc hn
      have hcl : c < Y.2.2.2.2.length := by omega
      have e : Y.2.2.2.2[c] = -1 := by
        have := hend c hn
        rw [List.getD_eq_getElem?_getD, List.getElem?_eq_getElem hcl] at this
        exact this
      rw [List.drop_eq_getElem_cons hcl, gtx, e, if_neg (by decide), List.nil_append, ih (c + 1) (by omega) (by omega)]
  have g2 : ∀ (u c : Nat), (c : Int) + u = Y.1 * Y.2.1 → gtx c (Y.2.2.2.2.drop c) = (List.range' c u).flatMap (tGive Y) := by
    intro u
    induction u with
    | zero =>
      intro c hc
      rw [g1 (9 - c) c (by omega) (by omega)]
      rfl
    | succ u ih =>
      intro c hc
      have hcl : c < Y.2.2.2.2.length := by omega
      have e : Y.2.2.2.2.getD c (-1) = Y.2.2.2.2[c] := by
        rw [List.getD_eq_getElem?_getD, List.getElem?_eq_getElem hcl]
        rfl
      rw [List.drop_eq_getElem_cons hcl, gtx, ih (c + 1) (by omega), List.range'_succ, List.flatMap_cons]
      congr 1
      unfold tGive
      rw [e]
  have := g2 (Y.1 * Y.2.1).toNat 0 (by omega)
  rw [List.drop_zero] at this
  rw [this, List.range_eq_range']
