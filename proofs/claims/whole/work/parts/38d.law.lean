/-! THE LAW: the start, every call, whole. -/
theorem bSum_0 {g : Int → Int} {b : Int} : ∀ n : Nat, (∀ i : Nat, i < n → g (b + (i : Int)) = 0) → bSum g b n = 0
  | 0, _ => rfl
  | n + 1, h => by
    rw [bSum, bSum_0 n (fun i hi => h i (by omega)), h n (by omega)]
    rfl
theorem i0_n {a : Nat} (h : lx_fd xM0 a = none) (k : Nat) : fx_i0 a k = 0 := by
  unfold fx_i0
  rw [h]
theorem i0_9 : ∀ k : Fin 9, fx_i0 17 (k : Nat) = -1 ∧ fx_i0 26 (k : Nat) = -1 ∧ fx_i0 154 (k : Nat) = -1 := by decide +kernel
theorem i0_27 : ∀ k : Fin 27, fx_i0 54 (k : Nat) = -1 ∧ fx_i0 174 (k : Nat) = -1 := by decide +kernel
theorem i0_3 : ∀ k : Fin 3, fx_i0 57 (k : Nat) = -1 ∧ fx_i0 177 (k : Nat) = -1 := by decide +kernel
section LWS
variable {M : fx_M}
theorem st_126 (h : fx_st M) {j : Int} (j0 : 0 ≤ j) (j1 : j < 1024) : M 126 j = (if j = 0 then 1 else 0) ∧ M 188 j = (if j = 0 then 1 else 0) := by
  rw [st_arr h (a := 126) (t := 1) (n := 1024) (by decide +kernel) j0 j1, st_arr h (a := 188) (t := 0) (n := 1024) (by decide +kernel) j0 j1]
  have e1 : lx_fd xM0 126 = some [(0, 1)] := by decide +kernel
  have e2 : lx_fd xM0 188 = some [(0, 1)] := by decide +kernel
  unfold fx_i0
  rw [e1, e2]
  dsimp only
  by_cases e : j = 0
  · rw [if_pos e, e]
    decide
  · rw [if_neg e]
    have hn : j.toNat ≠ 0 := by omega
    unfold lx_fd
    rw [if_neg (fun x => hn x.symm)]
    exact ⟨rfl, rfl⟩
/-- play at the start -/
def V0 (M : fx_M) : fx_M := fun i j => if i = 0 then 0 else M (53 + i) j
theorem V0_n {i : Nat} {j : Int} (h : i ≠ 0) : V0 M i j = M (53 + i) j := by
  unfold V0
  rw [if_neg h]
theorem st_start (h : fx_st M) : lwR 0 M := by
  have z3 : ∀ w : Int, 0 ≤ w → w < 3 → V0 M 3 w = 0 ∧ M 176 w = 0 := fun w w0 w1 => by
    rw [V0_n (by decide)]
    show M 56 w = 0 ∧ M 176 w = 0
    rw [st_arr h (a := 56) (t := 0) (n := 3) (by decide +kernel) w0 w1, st_arr h (a := 176) (t := 0) (n := 3) (by decide +kernel) w0 w1, i0_n (by decide +kernel), i0_n (by decide +kernel)]
    exact ⟨rfl, rfl⟩
  have z1 : ∀ j : Int, 0 ≤ j → j < 27 → V0 M 1 j = -1 ∧ M 174 j = -1 := fun j j0 j1 => by
    rw [V0_n (by decide)]
    show M 54 j = -1 ∧ M 174 j = -1
    rw [st_arr h (a := 54) (t := 0) (n := 27) (by decide +kernel) j0 j1, st_arr h (a := 174) (t := 0) (n := 27) (by decide +kernel) j0 j1]
    exact i0_27 ⟨j.toNat, by omega⟩
  have z2 : ∀ j : Int, 0 ≤ j → j < 27 → V0 M 2 j = 0 ∧ M 175 j = 0 := fun j j0 j1 => by
    rw [V0_n (by decide)]
    show M 55 j = 0 ∧ M 175 j = 0
    rw [st_arr h (a := 55) (t := 0) (n := 27) (by decide +kernel) j0 j1, st_arr h (a := 175) (t := 0) (n := 27) (by decide +kernel) j0 j1, i0_n (by decide +kernel), i0_n (by decide +kernel)]
    exact ⟨rfl, rfl⟩
  have z4 : ∀ j : Int, 0 ≤ j → j < 3 → V0 M 4 j = -1 ∧ M 177 j = -1 := fun j j0 j1 => by
    rw [V0_n (by decide)]
    show M 57 j = -1 ∧ M 177 j = -1
    rw [st_arr h (a := 57) (t := 0) (n := 3) (by decide +kernel) j0 j1, st_arr h (a := 177) (t := 0) (n := 3) (by decide +kernel) j0 j1]
    exact i0_3 ⟨j.toNat, by omega⟩
  have zz : ∀ (a b : Nat) (j : Int), fx_a a = some (0, 300) → fx_a b = some (0, 300) → lx_fd xM0 a = none → lx_fd xM0 b = none → 0 ≤ j → j < 300 → M a j = M b j := fun a b j fa fb la lb j0 j1 => by
    rw [st_arr h fa j0 j1, st_arr h fb j0 j1, i0_n la, i0_n lb]
  have hz : ∀ p : Nat, (p = 11 ∨ p = 20) → cz M p (z_new 1 1 1) := fun p hp => by
    rcases hp with rfl | rfl
    · refine ⟨(show M 11 0 = 1 from st_get h 11 0 (by decide +kernel) (by decide +kernel)), (show M 11 1 = 1 from st_get h 11 1 (by decide +kernel) (by decide +kernel)), (show M 11 2 = 1 from st_get h 11 2 (by decide +kernel) (by decide +kernel)), (show M 11 3 = 1 from st_get h 11 3 (by decide +kernel) (by decide +kernel)), (show M 11 4 = 0 from st_get h 11 4 (by decide +kernel) (by decide +kernel)), fun r R hr => (by cases hr), fun c hc => ?_, ?_, ?_⟩
      · have := (i0_9 ⟨c, hc⟩).1
        rw [st_arr h (a := 17) (t := 0) (n := 9) (by decide +kernel) (by omega) (by omega), Int.toNat_natCast]
        rw [this]
        have hd : ∀ q : Fin 9, (z_new 1 1 1).2.2.2.2.getD (q : Nat) (-1) = -1 := by decide +kernel
        exact (hd ⟨c, hc⟩).symm
      · rw [show M 11 12 = 0 from st_get h 11 12 (by decide +kernel) (by decide +kernel)]
        decide
      · rw [show M 11 12 = 0 from st_get h 11 12 (by decide +kernel) (by decide +kernel)]
        exact ⟨by decide, fun r R hr => (by cases hr)⟩
    · refine ⟨(show M 20 0 = 1 from st_get h 20 0 (by decide +kernel) (by decide +kernel)), (show M 20 1 = 1 from st_get h 20 1 (by decide +kernel) (by decide +kernel)), (show M 20 2 = 1 from st_get h 20 2 (by decide +kernel) (by decide +kernel)), (show M 20 3 = 1 from st_get h 20 3 (by decide +kernel) (by decide +kernel)), (show M 20 4 = 0 from st_get h 20 4 (by decide +kernel) (by decide +kernel)), fun r R hr => (by cases hr), fun c hc => ?_, ?_, ?_⟩
      · have := (i0_9 ⟨c, hc⟩).2.1
        rw [st_arr h (a := 26) (t := 0) (n := 9) (by decide +kernel) (by omega) (by omega), Int.toNat_natCast]
        rw [this]
        have hd : ∀ q : Fin 9, (z_new 1 1 1).2.2.2.2.getD (q : Nat) (-1) = -1 := by decide +kernel
        exact (hd ⟨c, hc⟩).symm
      · rw [show M 20 12 = 0 from st_get h 20 12 (by decide +kernel) (by decide +kernel)]
        decide
      · rw [show M 20 12 = 0 from st_get h 20 12 (by decide +kernel) (by decide +kernel)]
        exact ⟨by decide, fun r R hr => (by cases hr)⟩
  have zo : pz_ok (z_new 1 1 1) := z_new_ok ⟨by omega, by omega, by omega, by omega, by omega, by omega⟩
  have hb : bk_b (M 126) := fun j j0 j1 => by
    rw [(st_126 h j0 j1).1]
    split <;> decide
  have g0 : M 126 0 = 1 := (st_126 h (j := 0) (by omega) (by omega)).1
  have hrt : bRt (M 126) = 32 := by
    have := bRg_e (g := M 126) (Or.inl g0)
    omega
  have gz : ∀ j : Int, 1 ≤ j → j < 1024 → M 126 j = 0 := fun j j0 j1 => by rw [(st_126 h (by omega) j1).1, if_neg (by omega)]
  have hM : bMd (M 126) := by
    unfold bMd
    rw [hrt]
    refine ⟨Or.inl g0, by rw [gz 32 (by omega) (by omega)]; decide, ?_, fun e e0 e1 => ?_⟩
    · rw [bSum_0 31 (fun i hi => gz _ (by omega) (by omega)), gz (32 + 31) (by omega) (by omega)]
      rfl
    · rw [gz 32 (by omega) (by omega)] at e1
      omega
  have hv : pv_ok (V0 M) := by
    have e0 : V0 M 0 0 = 0 := rfl
    refine ⟨by rw [e0]; decide, by rw [e0]; decide, fun j j0 j1 => ?_, fun w w0 w1 => ?_, fun w i w0 w1 i0 i1 => ?_⟩
    · rw [(z1 j j0 j1).1, (z2 j j0 j1).1]
      decide
    · rw [(z3 w w0 w1).1, (z4 w w0 w1).1]
      decide
    · rw [(z3 w w0 w1).1] at i1
      omega
  have e53_0 : M 53 0 = 0 := st_get h 53 0 (by decide +kernel) (by decide +kernel)
  have e62_0 : M 62 0 = 0 := st_get h 62 0 (by decide +kernel) (by decide +kernel)
  have e125_1 : M 125 1 = 1 := st_get h 125 1 (by decide +kernel) (by decide +kernel)
  have e125_2 : M 125 2 = 0 := st_get h 125 2 (by decide +kernel) (by decide +kernel)
  have e133_80 : M 133 80 = 0 := st_get h 133 80 (by decide +kernel) (by decide +kernel)
  have e133_89 : M 133 89 = 0 := st_get h 133 89 (by decide +kernel) (by decide +kernel)
  have e133_96 : M 133 96 = 1 := st_get h 133 96 (by decide +kernel) (by decide +kernel)
  have e133_102 : M 133 102 = 0 := st_get h 133 102 (by decide +kernel) (by decide +kernel)
  have e3_1 : M 3 1 = 0 := st_get h 3 1 (by decide +kernel) (by decide +kernel)
  have e133_5 : M 133 5 = 0 := st_get h 133 5 (by decide +kernel) (by decide +kernel)
  have e146_0 : M 146 0 = 1 := st_get h 146 0 (by decide +kernel) (by decide +kernel)
  have e147_0 : M 147 0 = 1 := st_get h 147 0 (by decide +kernel) (by decide +kernel)
  have e148_0 : M 148 0 = 1 := st_get h 148 0 (by decide +kernel) (by decide +kernel)
  have e149_0 : M 149 0 = 0 := st_get h 149 0 (by decide +kernel) (by decide +kernel)
  refine ⟨by omega, (z_new 1 1 1, V0 M, [], 1, M 126, []), [], ⟨hz 11 (Or.inl rfl), ⟨_, hz 20 (Or.inr rfl), zo⟩, ⟨e53_0, fun i j i1 i8 j0 j1 => (V0_n (by omega)).symm⟩, ⟨e62_0, fun i t hi => (by cases hi)⟩, e125_1, rfl, ⟨e125_2, fun i x hx => (by cases hx)⟩⟩, ⟨?_, ⟨e133_80, fun i j i1 i8 j0 j1 => ?_⟩, ⟨e133_89, fun i t hi => (by cases hi)⟩, e133_96, fun j j0 j1 => ?_, ⟨e133_102, ?_, ?_, ?_, fun i x hx => (by cases hx)⟩⟩, ⟨⟨zo, z_new_pn, hv, fun w c w0 w1 hc => ?_, ⟨by omega, show ([] : List CI).length ≤ 6 by decide, fun t ht => (by cases ht)⟩, Or.inr rfl, hb, fun _ => hM, ⟨show ([] : List (Int × Int)).length ≤ 1024 by decide, fun x hx => (by cases hx)⟩⟩, fun w i w0 w1 i0 i1 => ?_⟩, ⟨byt_nil, by decide, Or.inl (by decide)⟩, ⟨e3_1, fun i hi => (by cases hi)⟩, ⟨e133_5, fun i hi => (by cases hi)⟩, ?_, fun j j0 j1 => ?_⟩
  · refine ⟨e146_0, e147_0, e148_0, e149_0, fun r R hr => (by cases hr), fun c hc => ?_⟩
    have := (i0_9 ⟨c, hc⟩).2.2
    rw [show (9 : Int) * 0 + (c : Int) = (c : Int) by omega, st_arr h (a := 154) (t := 0) (n := 90) (by decide +kernel) (by omega) (by omega), Int.toNat_natCast]
    rw [this]
    have hd : ∀ q : Fin 9, (z_new 1 1 1).2.2.2.2.getD (q : Nat) (-1) = -1 := by decide +kernel
    exact (hd ⟨c, hc⟩).symm
  · have hi : i = 1 ∨ i = 2 ∨ i = 3 ∨ i = 4 ∨ i = 5 ∨ i = 6 ∨ i = 7 ∨ i = 8 := by omega
    rcases hi with rfl | rfl | rfl | rfl | rfl | rfl | rfl | rfl
    · exact (z1 j j0 j1).2.trans (z1 j j0 j1).1.symm
    · exact (z2 j j0 j1).2.trans (z2 j j0 j1).1.symm
    · exact (z3 j j0 j1).2.trans (z3 j j0 j1).1.symm
    · exact (z4 j j0 j1).2.trans (z4 j j0 j1).1.symm
    · exact zz 180 58 j (by decide +kernel) (by decide +kernel) (by decide +kernel) (by decide +kernel) j0 j1
    · exact zz 178 59 j (by decide +kernel) (by decide +kernel) (by decide +kernel) (by decide +kernel) j0 j1
    · exact zz 181 60 j (by decide +kernel) (by decide +kernel) (by decide +kernel) (by decide +kernel) j0 j1
    · exact zz 179 61 j (by decide +kernel) (by decide +kernel) (by decide +kernel) (by decide +kernel) j0 j1
  · exact (st_126 h j0 j1).2.trans (st_126 h j0 j1).1.symm
  · rw [show M 133 99 = 0 from st_get h 133 99 (by decide +kernel) (by decide +kernel)]
    decide
  · rw [show M 133 100 = 0 from st_get h 133 100 (by decide +kernel) (by decide +kernel)]
    decide
  · rw [show M 133 101 = 0 from st_get h 133 101 (by decide +kernel) (by decide +kernel)]
    decide
  · refine ⟨fun s hs _ => ?_, fun hneg => ?_⟩
    · show mbit (V0 M 2 (9 * w + (c : Int))) (s : Int) = 0
      rw [(z2 _ (by omega) (by omega)).1]
      exact mbit_0 ⟨s, hs⟩
    · have hneg' : 0 ≤ V0 M 1 (9 * w + (c : Int)) := hneg
      rw [(z1 _ (by omega) (by omega)).1] at hneg'
      omega
  · have i1' : i < V0 M 3 w := i1
    rw [(z3 w w0 w1).1] at i1'
    omega
  · have a0 : M 0 1 = 0 := st_get h 0 1 (by decide +kernel) (by decide +kernel)
    have a1 : M 133 1 = 0 := st_get h 133 1 (by decide +kernel) (by decide +kernel)
    unfold tpR
    rw [a0, a1]
    exact ⟨rfl, by omega, by omega, fun j j0 j1 => by omega⟩
  · rw [st_arr h (a := 2) (t := 1) (n := 5606) (by decide +kernel) j0 j1, i0_n (by decide +kernel)]
    decide
end LWS
/-- the law on scripts of at most 3072 ints -/
theorem whole_law : lx_law 3072 := by
  refine lw_law (fun L xs M hL hM _ => ?_)
  refine lw_loop (N := 3072) (d := 999) (L := L) (xs := xs) (R := lwR) hL (by omega) (fun k M s hk hs hR => ?_) (L + 1) 0 M (by omega) (by omega) (st_start hM)
  have hk6 : k + 1 ≤ 600 := by omega
  refine ⟨fun _ => l_feed hR hk6 (hs _) (hs _) (hs _) (hs _) (hs _), fun _ => l_ask hR hk6 (hs _), fun _ => l_answer hR hk6 (hs _), fun _ => l_check hR hk6, fun _ => l_state hR hk6 (hs _), fun _ => l_byte hR hk6 (hs _) (hs _), fun _ => l_poke hR hk6 (hs _) (hs _) (hs _), fun _ => ?_⟩
  obtain ⟨h0, S, A, h1, h2, h3, h4, h5, h6, h7, h8⟩ := hR
  exact ⟨hk6, S, A, h1, h2, h2_same h3 (by omega), h4, h5, h6, h7, h8⟩
