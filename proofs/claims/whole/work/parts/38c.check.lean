/-! THE CALLS: checkAnswer. -/
theorem rLn_1 {g : Int → Int} {e p : Int} (h : (rKa g e p 0).2.2 = 1 ∧ (rKa g e p 0).1 = -1) : (rLn g e p 0).2.2 = 1 := by
  have e1 : rKb g e p 0 = (0, (rKa g e p 0).2) := by
    unfold rKb
    rw [if_neg (by omega)]
  have e2 : rKc g e p 0 = (0, (rKa g e p 0).2) := by
    unfold rKc
    rw [if_neg (by omega), e1]
  have e3 : rKd g e p 0 = ([], (rKa g e p 0).2) := by
    unfold rKd
    rw [e2]
    dsimp only
    rw [rLs, if_neg (fun x => by have := x.1; omega)]
  have e4 : (rLn g e p 0).2 = rT g e 59 (rKd g e p 0).2.1 (rKd g e p 0).2.2 := rfl
  rw [e4, e3]
  dsimp only
  rw [h.1]
  rfl
/-- no proof: one line is read at most -/
theorem noP_1 {g : Int → Int} {e p : Int} {A : List Int} (hA : noP A) (hp : p + A.length ≤ e) (hg : ∀ i : Nat, i < A.length → g (p + (i : Int)) = A.getD i 0) : (rLn g e p 0).2.2 = 1 := by
  rcases hA with ⟨x, l, rfl, x1, x2, x3, x4, x5⟩ | ⟨l, rfl⟩
  · have g0 := hg 0 (by rw [List.length_cons]; omega)
    rw [show p + ((0 : Nat) : Int) = p by omega] at g0
    have g0' : g p = x := g0
    rw [List.length_cons] at hp
    refine rLn_1 ?_
    have e1 : rKa g e p 0 = (-1, p, 1) := by
      unfold rKa
      rw [rC_L, if_pos (by omega), g0', if_neg x1, if_neg x2, if_neg x3, if_neg x4, if_neg x5]
    rw [e1]
    exact ⟨rfl, rfl⟩
  · have g0 := hg 0 (by rw [List.length_cons]; omega)
    have g1 := hg 1 (by rw [List.length_cons, List.length_cons]; omega)
    rw [show p + ((0 : Nat) : Int) = p by omega] at g0
    rw [show p + ((1 : Nat) : Int) = p + 1 by omega] at g1
    have g0' : g p = 98 := g0
    have g1' : g (p + 1) = 111 := g1
    rw [List.length_cons, List.length_cons] at hp
    have e1 : rKa g e p 0 = (4, p + 1, 0) := by
      unfold rKa
      rw [rC_L, if_pos (by omega), g0', if_neg (by decide), if_neg (by decide), if_neg (by decide), if_neg (by decide), if_pos rfl]
    have e2 : rKb g e p 0 = (0, p + 1, 0) := by
      unfold rKb
      rw [e1]
      rfl
    have e3 : rKc g e p 0 = (0, p + 1, 0) := by
      unfold rKc
      rw [e1, e2]
      rfl
    have e4 : rKd g e p 0 = ([], p + 1, 0) := by
      unfold rKd
      rw [e3]
      dsimp only
      rw [rLs, if_neg (fun x => by have := x.2.2; omega)]
    have e5 : (rLn g e p 0).2 = rT g e 59 (rKd g e p 0).2.1 (rKd g e p 0).2.2 := rfl
    rw [e5, e4]
    dsimp only
    unfold rT
    rw [if_pos rfl, if_pos (by omega), g1', if_neg (by decide)]
theorem ck_len {g : Int → Int} {A : List Int} (hA : aOk A) (h5 : g 5 = 32) (hg : ∀ i : Nat, i < A.length → g (6 + (i : Int)) = A.getD i 0) : (rCk g (6 + (A.length : Int)) 5).1.length ≤ 1600 := by
  have ht : rT g (6 + (A.length : Int)) 32 5 0 = (6, 0) := by
    unfold rT
    rw [if_pos rfl, if_pos (by omega), h5, if_pos rfl]
    rfl
  unfold rCk
  rw [ht]
  dsimp only
  rcases hA.2.2 with hl | hn
  · have := rPf_len (g := g) (e := 6 + (A.length : Int)) ((6 + (A.length : Int) - 6).toNat + 1) 6 (by omega)
    omega
  · have h1 := noP_1 hn (p := 6) (e := 6 + (A.length : Int)) (by omega) hg
    rw [rPf, if_neg (fun x => by have := x.1; omega)]
    show 1 ≤ 1600
    omega
section LCC
variable {L : Nat} {xs : Nat → Int32} {k : Nat} {M : fx_M}
/-- the reference copies its answer behind the word -/
theorem mc_loop {kc : List va_E} {d : Nat} {Q : Option fx_V → fx_M → Prop} {n : Nat} {M0 : fx_M} (hn : n ≤ 5600) (h5 : M0 133 5 = n) (K : ∀ N, (∀ j : Int, 0 ≤ j → j < 6 → N 135 j = M0 135 j) → (∀ i : Nat, i < n → N 135 (6 + (i : Int)) = M0 136 i) → (∀ b j, b ≠ 135 → N b j = M0 b j) → wc kc d 219 [jR 133] (fx_up N 133 3 (6 + (n : Int))) (fun v M1 => wp kc (d + 1) 422 89 [none, none, none, none] (v.toList ++ []) M1 Q)) : ∀ (t i : Nat) (N : fx_M), i + t = n → (∀ j : Int, 0 ≤ j → j < 6 → N 135 j = M0 135 j) → (∀ q : Nat, q < i → N 135 (6 + (q : Int)) = M0 136 q) → (∀ b j, b ≠ 135 → N b j = M0 b j) → wp kc (d + 1) 422 45 [some (jR 133), none, none, some (jI i)] [] N Q
  | 0, i, N, hi, h1, h2, h3 => by
    have e5 : N 133 5 = (n : Int) := by rw [h3 133 5 (by decide), h5]
    refine s422_45 ⟨⟨⟨by omega, by omega⟩, ⟨by omega, by omega⟩⟩, fun _ => ?_, fun h => by omega⟩
    rw [e5]
    exact K N h1 (fun q hq => h2 q (by omega)) h3
  | t + 1, i, N, hi, h1, h2, h3 => by
    have e5 : N 133 5 = (n : Int) := by rw [h3 133 5 (by decide), h5]
    refine s422_45 ⟨⟨⟨by omega, by omega⟩, ⟨by omega, by omega⟩⟩, fun h => by omega, fun _ => ⟨⟨by omega, by omega⟩, ⟨by omega, by omega⟩, ?_⟩⟩
    have ih := mc_loop (kc := kc) (d := d) (Q := Q) hn h5 K t (i + 1) (fx_up N 135 (6 + (i : Int)) (N 136 i)) (by omega) (fun j j0 j1 => by rw [fx_up_nk (by omega)]; exact h1 j j0 j1) (fun q hq => by
      by_cases e : q = i
      · rw [e, fx_up_self, h3 136 _ (by decide)]
      · rw [fx_up_nk (by omega)]
        exact h2 q (by omega)) (fun b j hb => by rw [fx_up_na hb, h3 b j hb])
    rw [show ((i + 1 : Nat) : Int) = (i : Int) + 1 by omega] at ih
    exact ih
theorem bsC_b {q : Int} (q0 : 0 ≤ q) (q1 : q < 6) : 0 ≤ bsC q ∧ bsC q ≤ 65535 := by
  have hf : ∀ k : Fin 6, 0 ≤ bsC ((k : Nat) : Int) ∧ bsC ((k : Nat) : Int) ≤ 65535 := by decide +kernel
  have := hf ⟨q.toNat, by omega⟩
  rwa [show ((q.toNat : Nat) : Int) = q by omega] at this
theorem ob_check {N : fx_M} (hN : N 5 1 = 0) : (o_app N 5 ([99, 104, 101, 99, 107, 32] : List Int)) 5 1 = 6 ∧ ∀ q : Int, 0 ≤ q → q < 6 → (o_app N 5 ([99, 104, 101, 99, 107, 32] : List Int)) 6 q = bsC q := by
  have ol := fx_ol5
  refine ⟨?_, fun q q0 q1 => ?_⟩
  · rw [o_app_len (by rw [hN, ol]; decide), hN]
    rfl
  · have hc : q = 0 ∨ q = 1 ∨ q = 2 ∨ q = 3 ∨ q = 4 ∨ q = 5 := by omega
    have st : ∀ (N : fx_M) (c k k' : Int), N 5 1 = k → k < 512 → k' = k + 1 → o_put N 5 c = fx_up (fx_up N 6 k c) 5 1 k' := by
      intro N c k k' hk hlt hk'
      unfold o_put
      rw [hk, ol, if_pos (show k < ((512 : Nat) : Int) by omega), hk']
    unfold o_app o_app o_app o_app o_app o_app o_app
    rw [st N 99 0 1 hN (by omega) rfl]
    rw [st _ 104 1 2 (fx_up_self _ _ _ _) (by omega) rfl]
    rw [st _ 101 2 3 (fx_up_self _ _ _ _) (by omega) rfl]
    rw [st _ 99 3 4 (fx_up_self _ _ _ _) (by omega) rfl]
    rw [st _ 107 4 5 (fx_up_self _ _ _ _) (by omega) rfl]
    rw [st _ 32 5 6 (fx_up_self _ _ _ _) (by omega) rfl]
    rcases hc with rfl | rfl | rfl | rfl | rfl | rfl <;> simp [fx_up, bsC]
theorem l_check (h : lwR k M) (hk : k + 1 ≤ 600) : lw_call (kcs L xs) 999 206 422 [] M (lwR (k + 1)) := by
  obtain ⟨h0, S, A, h1, h2, h3, h4, h5, h6, h7, h8⟩ := h
  have a5 := h4.2.1
  refine s206 (s63 fx_out5 (s206_7 (sp_puts (d := 994) fx_out5 lt_1000181 ?_ ?_)))
  · unfold o_ok
    rw [fx_up_self]
    omega
  have hob := ob_check (N := fx_up M 5 1 0) (fx_up_self _ _ _ _)
  have hon : ∀ b j, b ≠ 5 → b ≠ 6 → (o_app (fx_up M 5 1 0) 5 ([99, 104, 101, 99, 107, 32] : List Int)) b j = M b j := fun b j h1 h2 => by
    rw [o_app_ne h1 h2, fx_up_na h1]
  show wp (kcs L xs) 999 206 16 [some (jR 0)] [] (o_app (fx_up M 5 1 0) 5 ([99, 104, 101, 99, 107, 32] : List Int)) _
  generalize o_app (fx_up M 5 1 0) 5 ([99, 104, 101, 99, 107, 32] : List Int) = N at hob hon
  obtain ⟨hN1, hN2⟩ := hob
  have hN3 : N 3 1 = (A.length : Int) := by rw [hon 3 1 (by decide) (by decide)]; exact h5.1
  refine s206_16 ?_
  rw [hN1]
  have c51 : (fx_cpy N 6 0 2 0 6) 5 1 = 6 := by
    unfold fx_cpy
    rw [if_neg (by omega), hN1]
  have c31 : (fx_cpy N 6 0 2 0 6) 3 1 = (A.length : Int) := by
    unfold fx_cpy
    rw [if_neg (by omega), hN3]
  rw [c51, c31]
  generalize hB : fx_cpy (fx_cpy N 6 0 2 0 6) 4 0 2 6 (A.length : Int) = B
  have fB : ∀ b j, b ≠ 2 → B b j = N b j := fun b j hb => by
    rw [← hB]
    unfold fx_cpy
    rw [if_neg (fun x => hb x.1), if_neg (fun x => hb x.1)]
  have b51 : B 5 1 = 6 := by rw [fB 5 1 (by decide), hN1]
  have b31 : B 3 1 = (A.length : Int) := by rw [fB 3 1 (by decide), hN3]
  rw [b51, b31]
  refine ⟨⟨by omega, by omega, by omega, by omega, by omega⟩, ⟨by omega, by omega, by omega, by omega, by omega⟩, ?_⟩
  have q1 : ∀ j : Int, 0 ≤ j → j < 6 → B 2 j = bsC j := fun j j0 j1 => by
    rw [← hB]
    unfold fx_cpy
    rw [if_neg (by omega), if_pos ⟨rfl, j0, by omega⟩, show (0 : Int) + (j - 0) = j by omega]
    exact hN2 j j0 j1
  have q2 : ∀ i : Nat, i < A.length → B 2 (6 + (i : Int)) = A.getD i 0 := fun i hi => by
    rw [← hB]
    unfold fx_cpy
    rw [if_pos ⟨rfl, by omega, by omega⟩, if_neg (by omega), show (0 : Int) + (6 + (i : Int) - 6) = i by omega, hon 4 _ (by decide) (by decide)]
    exact h5.2 i hi
  have q3 : ∀ j : Int, ¬ (0 ≤ j ∧ j < 6 + (A.length : Int)) → B 2 j = M 2 j := fun j hj => by
    rw [← hB]
    unfold fx_cpy
    rw [if_neg (by omega), if_neg (by omega), hon 2 j (by decide) (by decide)]
  have hbB : bytR B := fun j j0 j1 => by
    by_cases e6 : j < 6
    · rw [q1 j j0 e6]
      exact bsC_b j0 e6
    · by_cases el : j < 6 + (A.length : Int)
      · obtain ⟨i, hi⟩ : ∃ i : Nat, j = 6 + (i : Int) := ⟨(j - 6).toNat, by omega⟩
        rw [hi, q2 i (by omega)]
        have := h4.1 _ (getD_mem (show i < A.length by omega))
        omega
      · rw [q3 j (by omega)]
        exact h8 j j0 j1
  have hcB : cRl B S := cRl_fr h1 h3.1.2.2.2.2.1 (fun b j hb => by rw [fB b j (by omega), hon b j (by omega) (by omega)])
  have hb5 : B 2 5 = 32 := q1 5 (by omega) (by omega)
  refine c_resp (d := 973) ⟨by omega, by omega⟩ hbB hcB h3.1 (fun hw => ?_) (fun M' m1 m2 m3 => s206_87 ?_)
  · rw [chs_15 hw]
    exact ck_len h4 hb5 q2
  · have hS1 := st_F (g := B 2) (n := 6 + (A.length : Int)) h3 (by omega) (by omega) (fun j j0 j1 => hbB j j0 (by omega))
    have hA1 := an_F (g := B 2) (n := 6 + (A.length : Int)) h3.1 (by omega)
    have hl1 := hA1.2.1
    have eM1 := m2.1
    refine ⟨M' 3 1, ⟨by omega, by omega⟩, rfl, ?_⟩
    have fM : ∀ b j, 133 ≤ b → M' b j = M b j := fun b j hb => by rw [m3 b j (by omega), fB b j (by omega), hon b j (by omega) (by omega)]
    refine s422 (sp_word (d := 997) (by omega) (by omega) (s422_10 (mck_loop (d := 996) 5 0 _ rfl (fun q q0 q1 => by omega) (fun T u1 u2 => ?_))))
    have T5 : (fx_up T 135 5 32) 133 5 = (A.length : Int) := by
      rw [fx_up_na (by decide), u2 133 5 (by decide), fx_up_nk (by decide), fM 133 5 (by omega)]
      exact h6.1
    refine mc_loop (d := 998) (n := A.length) (M0 := fx_up T 135 5 32) a5 T5 (fun U v1 v2 v3 => ?_) A.length 0 (fx_up T 135 5 32) (by omega) (fun _ _ _ => rfl) (fun q hq => by omega) (fun _ _ _ => rfl)
    generalize hP : fx_up U 133 3 (6 + (A.length : Int)) = P
    have fP : ∀ b j, b ≠ 135 → ¬ (b = 133 ∧ (j = 0 ∨ j = 3)) → P b j = M' b j := fun b j b1 b2 => by rw [← hP, fx_up_ne (by omega), v3 b j b1, fx_up_na b1, u2 b j b1, fx_up_ne (by omega)]
    have p3 : P 133 3 = 6 + (A.length : Int) := by rw [← hP, fx_up_self]
    have p1 : ∀ j : Int, 0 ≤ j → j < 6 → P 135 j = bsC j := fun j j0 j1 => by
      rw [← hP, fx_up_na (by decide), v1 j j0 j1]
      by_cases e : j = 5
      · rw [e, fx_up_self]
        rfl
      · rw [fx_up_nk e]
        exact u1 j j0 (by omega)
    have p2 : ∀ i : Nat, i < A.length → P 135 (6 + (i : Int)) = A.getD i 0 := fun i hi => by
      rw [← hP, fx_up_na (by decide), v2 i hi, fx_up_na (by decide), u2 136 _ (by decide), fx_up_na (by decide), fM 136 _ (by omega)]
      exact h6.2 i hi
    have hag : agr (P 135) (B 2) (6 + (A.length : Int)) := fun j j0 j1 => by
      by_cases e6 : j < 6
      · rw [p1 j j0 e6, q1 j j0 e6]
      · obtain ⟨i, hi⟩ : ∃ i : Nat, j = 6 + (i : Int) := ⟨(j - 6).toNat, by omega⟩
        rw [hi, p2 i (by omega), q2 i (by omega)]
    have hmP : mRl P S := mRl_fr h2 h3.1 (fun b j hb => by
      have := mCl_b hb
      rw [fP b j (by omega) (by omega), fM b j (by omega)])
    have hF := ag_F (S := S) hag (by omega)
    have p0 : P 135 0 ≠ 105 := by
      rw [p1 0 (by omega) (by omega)]
      decide
    refine m_resp (d := 978) ⟨by omega, by omega⟩ (fun j j0 j1 => by
      rw [hag j j0 j1]
      exact hbB j j0 (by omega)) p3 hmP h3.1 (fun e => absurd e (no_imp p0)) (fun M3 r1 r2 r3 => s422_89 ⟨?_, ?_⟩)
    · rw [hF] at r2
      rw [r2.1, eM1]
    · rw [hF] at r1 r2
      refine lwR_end (A := A) (P := P) hk hS1 hA1 m1 m2 r1 r2 r3 (fun b j hb => fP b j (by omega) (by omega)) ?_ (fun j j0 j1 => ?_)
      · obtain ⟨t1, t2, t3, t4⟩ := h7
        have a0 : M3 0 1 = M 0 1 := by rw [r3 0 1 (by omega), fP 0 1 (by omega) (by omega), m3 0 1 (by omega), fB 0 1 (by omega), hon 0 1 (by omega) (by omega)]
        have a1 : M3 133 1 = M 133 1 := by rw [r3 133 1 (by omega), fP 133 1 (by omega) (by omega), fM 133 1 (by omega)]
        unfold tpR
        rw [a0, a1]
        refine ⟨t1, t2, t3, fun j j0 j1 => ?_⟩
        rw [r3 134 j (by omega), fP 134 j (by omega) (by omega), fM 134 j (by omega), r3 1 j (by omega), fP 1 j (by omega) (by omega), m3 1 j (by omega), fB 1 j (by omega), hon 1 j (by omega) (by omega)]
        exact t4 j j0 j1
      · rw [r3 2 j (by omega), fP 2 j (by omega) (by omega), m3 2 j (by omega)]
        exact hbB j j0 j1
end LCC
