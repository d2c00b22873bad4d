/-- check, with nothing behind its blank -/
def bsC : Int → Int := fun q => ([99, 104, 101, 99, 107, 32] : List Int).getD q.toNat 0
theorem chs_check {g : Int → Int} (h : ∀ q : Int, 0 ≤ q → q < 6 → g q = bsC q) : chs g 6 0 bsW = (15, 5, 5) := by
  rw [chs_congr (g' := bsC) (fun q h1 h2 => h q h1 h2)]
  decide +kernel
theorem swl_check {g : Int → Int} (h : ∀ q : Int, 0 ≤ q → q < 6 → g q = bsC q) : swl g 6 0 45 0 0 (-1) = (11, 5) := by
  rw [swl_congr (g' := bsC) (fun q h1 h2 => h q h1 h2)]
  decide +kernel
section CHK
variable {L : Nat} {xs : Nat → Int32} {d : Nat} {M : fx_M} {Q : Option fx_V → fx_M → Prop}
/-- a line where nothing is left -/
theorem line_none (hS : sc_at M 7 2 5606) (h3 : M 7 3 = 0) (he : M 7 2 ≤ M 7 1) (K : ∀ M', M' 7 3 = 1 → M' 7 1 = M 7 1 → M' 7 2 = M 7 2 → (∀ b j, 39 < b → M' b j = M b j) → Q none M') : wc (kcs L xs) (d + 5) 59 [jR 34, jR 7, jI 0] M Q := by
  obtain ⟨a0, a1, a2, a3, a4, a5, a6, a7, a8⟩ := hS
  refine s59 fx_scn7 (sp_choose fx_scn7 lt_1000025 ⟨a0, a1, a2, a3, a4, a5, a6, a7, a8⟩ h3 ?_)
  rw [chs_end he]
  have c1 : (ch_m M 7 (-1, 0, 0)) 7 1 = M 7 1 := by simp [ch_m, fx_up]
  have c2 : (ch_m M 7 (-1, 0, 0)) 7 2 = M 7 2 := by simp [ch_m, fx_up]
  have c3 : (ch_m M 7 (-1, 0, 0)) 7 3 = 1 := by simp [ch_m, fx_up]
  have c4 : ∀ b j, 39 < b → (ch_m M 7 (-1, 0, 0)) b j = M b j := fun b j hb => by
    unfold ch_m
    rw [fx_up_na (by omega), fx_up_na (by omega)]
  generalize ch_m M 7 (-1, 0, 0) = N at c1 c2 c3 c4
  have e35 : (fx_up N 35 0 (-1)) 35 0 = -1 := fx_up_self _ _ _ _
  refine s59_11 fx_scn7 ?_
  rw [e35]
  refine ⟨⟨by omega, by omega⟩, ⟨by omega, by omega⟩, ⟨by omega, by omega⟩, ⟨by omega, by omega⟩, ⟨by omega, by omega⟩, ⟨by omega, by omega⟩, ⟨by omega, by omega⟩, fun h => by omega, fun _ => ⟨⟨by omega, by omega⟩, ⟨by omega, by omega⟩, fun h => by omega, fun _ => ⟨⟨by omega, by omega⟩, ⟨by omega, by omega⟩, fun _ => ⟨⟨by omega, by omega⟩, ⟨by omega, by omega⟩, fun _ => ?_, fun h => by omega⟩, fun h => by omega⟩⟩⟩
  have f : ∀ (b : Nat) (j : Int), (b < 35 ∨ 39 < b) → (fx_up (fx_up (fx_up (fx_up (fx_up N 35 0 (-1)) 36 0 0) 37 0 0) 38 0 0) 39 0 0) b j = N b j := fun b j hb => by
    rw [fx_up_na (by omega), fx_up_na (by omega), fx_up_na (by omega), fx_up_na (by omega), fx_up_na (by omega)]
  have g1 := f 7 1 (by omega)
  have g2 := f 7 2 (by omega)
  have g3 := f 7 3 (by omega)
  generalize fx_up (fx_up (fx_up (fx_up (fx_up N 35 0 (-1)) 36 0 0) 37 0 0) 38 0 0) 39 0 0 = P at f g1 g2 g3
  have hin : ∀ x : Int, x = 1 → fx_in32 x := fun x hx => ⟨by omega, by omega⟩
  have fin : wc (kcs L xs) (d + 4) 34 [jR 7, jI 59] P (fun v M1 => wp (kcs L xs) (d + 5) 59 147 [none, none, none, none] (v.toList ++ []) M1 Q) := by
    refine s34 (h1n := 5606) fx_scn7 ⟨hin _ (by omega), fun _ => s59_147 fx_scn7 (K _ (fx_up_self _ _ _ _) ?_ ?_ (fun b j hb => ?_)), fun h => by omega⟩
    · rw [fx_up_nk (by decide)]
      omega
    · rw [fx_up_nk (by decide)]
      omega
    · rw [fx_up_na (by omega), f b j (by omega), c4 b j hb]
  refine s59_112 fx_scn7 ⟨⟨⟨by omega, by omega⟩, ⟨by omega, by omega⟩⟩, fun _ => fin, fun _ => ?_⟩
  refine s38 (h1n := 5606) fx_scn7 ⟨hin _ (by omega), fun h => by omega, fun h => by omega, fun h => by omega, fun h => by omega, fun h => by omega, ?_, ?_⟩
  · rw [if_neg (by omega)]
    omega
  · rw [if_neg (by omega)]
    exact s59_126 fx_scn7 ⟨⟨by omega, by omega⟩, fun _ => fin, fun h => absurd rfl h⟩
theorem read_none (hS : sc_at M 7 2 5606) (h3 : M 7 3 = 0) (he : M 7 2 ≤ M 7 1) (K : ∀ M', M' 7 3 = 1 → M' 7 1 = M 7 1 → (∀ b j, 39 < b → M' b j = M b j) → Q none M') : wc (kcs L xs) (d + 6) 58 [jR 34, jR 7] M Q := by
  have hS' : sc_at (fx_up M 34 0 0) 7 2 5606 := by
    obtain ⟨a0, a1, a2, a3, a4, a5, a6, a7, a8⟩ := hS
    refine ⟨?_, a1, a2, ?_, ?_, ?_, ?_, ?_, fun j j0 j1 => ?_⟩
    · rw [fx_up_na (by decide)]; exact a0
    · rw [fx_up_na (by decide)]; exact a3
    · rw [fx_up_na (by decide), fx_up_na (by decide)]; exact a4
    · rw [fx_up_na (by decide)]; exact a5
    · rw [fx_up_na (by decide)]; exact a6
    · rw [fx_up_na (by decide)]; exact a7
    · rw [fx_up_na (by decide)]; exact a8 j j0 j1
  have e3 : (fx_up M 34 0 0) 7 3 = 0 := by rw [fx_up_na (by decide), h3]
  have e1 : (fx_up M 34 0 0) 7 1 = M 7 1 := fx_up_na (by decide)
  have e2 : (fx_up M 34 0 0) 7 2 = M 7 2 := fx_up_na (by decide)
  have hb : 0 ≤ M 7 1 ∧ M 7 1 ≤ M 7 2 ∧ M 7 2 ≤ 5606 := by
    obtain ⟨a0, a1, a2, a3, a4, a5, a6, a7, a8⟩ := hS
    omega
  refine s58 fx_scn7 (s58_9 fx_scn7 ⟨⟨by omega, by omega⟩, fun h => by omega, fun _ => ⟨⟨by omega, by omega⟩, fun h => by omega, fun _ => ⟨by rw [e3]; exact ⟨by omega, by omega⟩, fun h => by omega, fun _ => ?_⟩⟩⟩)
  refine line_none hS' e3 (by rw [e1, e2]; exact he) (fun M' w1 w2 w3 w4 => s58_33 fx_scn7 ⟨⟨by omega, by omega⟩, ⟨by omega, by omega⟩, ?_⟩)
  rw [if_neg (by omega)]
  refine s58_9 fx_scn7 ⟨⟨by omega, by omega⟩, fun h => by omega, fun _ => ⟨⟨by omega, by omega⟩, fun _ => K _ ?_ ?_ (fun b j hb => ?_), fun h => absurd rfl h⟩⟩
  · rw [fx_up_na (by decide)]
    exact w1
  · rw [fx_up_na (by decide)]
    omega
  · rw [fx_up_na (by omega), w4 b j hb, fx_up_na (by omega)]
/-- respond at check and its blank -/
theorem resp_check (hq : ∀ q : Int, 0 ≤ q → q < 6 → M 2 q = bsC q) (hr : ∀ j : Int, 0 ≤ j → j < 5606 → 0 ≤ M 2 j ∧ M 2 j ≤ 65535) (K : ∀ M', M' 3 1 = 5 → (∀ b j, 39 < b → M' b j = M b j) → Q none M') : wc (kcs L xs) (d + 9) 17 [jR 0, jI 6] M Q := by
  refine resp_start ⟨by omega, by omega⟩ hr ?_
  rw [chs_check hq]
  have e5 : M 2 5 = 32 := hq 5 (by omega) (by omega)
  have n0 : (ch_m (st_m M 6) 7 (15, 5, 5)) 7 0 = 2 := by simp [ch_m, st_m, fx_up]
  have n1 : (ch_m (st_m M 6) 7 (15, 5, 5)) 7 1 = 5 := by simp [ch_m, st_m, fx_up]
  have n2 : (ch_m (st_m M 6) 7 (15, 5, 5)) 7 2 = 6 := by simp [ch_m, st_m, fx_up]
  have n3 : (ch_m (st_m M 6) 7 (15, 5, 5)) 7 3 = 0 := by simp [ch_m, st_m, fx_up]
  have n4 : ∀ b j, b ≠ 7 → (ch_m (st_m M 6) 7 (15, 5, 5)) b j = M b j := fun b j hb => by
    unfold ch_m st_m
    rw [fx_up_na hb, fx_up_na hb, fx_up_na hb, fx_up_na hb, fx_up_na hb, fx_up_na hb, fx_up_na hb]
  generalize ch_m (st_m M 6) 7 (15, 5, 5) = N at n0 n1 n2 n3 n4
  have n25 : N 2 5 = 32 := by rw [n4 2 5 (by decide), e5]
  refine s17_22 (s32 ?_)
  refine ⟨⟨by omega, by omega⟩, fun h => by omega, fun h => by omega, fun h => by omega, fun h => by omega, fun h => by omega, fun h => by omega, fun h => by omega, fun h => by omega, fun h => by omega, fun h => by omega, fun h => by omega, fun h => by omega, fun h => by omega, fun h => by omega, fun h => by omega, fun _ => s44 ⟨⟨by omega, by omega⟩, fun h => by omega, fun h => by omega, fun h => by omega, fun _ => ?_, fun h => by omega, fun _ _ _ h => absurd rfl h⟩, fun h => by omega, fun h => by omega, fun h => by omega, fun h => by omega, fun h => by omega, fun h => by omega, fun h => by omega, fun h => by omega, fun h => by omega, fun h => by omega, fun h => by omega, fun h => by omega, fun h => by omega, fun h => by omega, fun h => by omega, fun h => by omega, fun h => by omega, fun h => by omega, fun h => by omega, fun h => by omega, fun h => by omega, fun h => by omega, fun h => by omega, fun h => by omega, fun h => by omega, fun h => by omega⟩
  refine s34 (h1n := 5606) fx_scn7 ⟨by rw [n3]; exact ⟨by omega, by omega⟩, fun h => by omega, fun _ => ⟨⟨by rw [n1]; exact ⟨by omega, by omega⟩, by rw [n2]; exact ⟨by omega, by omega⟩⟩, fun h => by omega, fun _ => ?_⟩⟩
  rw [n0, n1]
  refine ⟨⟨⟨by decide +kernel, by decide⟩, by omega, by omega⟩, ⟨?_, by omega, by omega⟩, fun _ => ?_, fun h => absurd n25 h⟩
  · show fx_in32 (N 2 5)
    rw [n25]
    exact ⟨by omega, by omega⟩
  have hS : sc_at (fx_up N 7 1 (5 + 1)) 7 2 5606 := by
    refine ⟨by rw [fx_up_nk (by decide), n0]; rfl, by decide +kernel, by decide, by rw [fx_up_self]; decide, by rw [fx_up_self, fx_up_nk (by decide), n2]; decide, by rw [fx_up_nk (by decide), n2]; decide, by rw [fx_up_nk (by decide), n3]; decide, by rw [fx_up_nk (by decide), n3]; decide, fun j j0 j1 => ?_⟩
    rw [fx_up_na (by decide), n4 2 j (by decide)]
    exact hr j j0 j1
  refine s44_118 (read_none hS (by rw [fx_up_nk (by decide), n3]) (by rw [fx_up_self, fx_up_nk (by decide), n2]; decide) (fun M' w1 w2 w3 => s44_129 (s32_351 ?_)))
  rw [fx_up_self] at w2
  refine resp_bad5 w1 (by omega) (by omega) (fun M2 h5 hk => K M2 h5 (fun b j hb => ?_))
  rw [hk b j (by omega), w3 b j hb, fx_up_na (by omega), n4 b j (by omega)]
/-- the reference's reply at check and its blank -/
theorem mreply_check (hq : ∀ q : Int, 0 ≤ q → q < 6 → M 135 q = bsC q) (he : M 133 3 = 6) (K : ∀ M', Q (some (jI 5)) M') : wc (kcs L xs) (d + 9) 219 [jR 133] M Q := by
  have bC : ∀ q : Int, 0 ≤ q → q < 6 → 0 ≤ bsC q ∧ bsC q ≤ 65535 := by
    intro q q0 q1
    have hf : ∀ k : Fin 6, 0 ≤ bsC ((k : Nat) : Int) ∧ bsC ((k : Nat) : Int) ≤ 65535 := by decide +kernel
    have := hf ⟨q.toNat, by omega⟩
    rwa [show ((q.toNat : Nat) : Int) = q by omega] at this
  have m3 : (fx_up (fx_up M 133 5 0) 133 7 0) 133 3 = 6 := by rw [fx_up_nk (by decide), fx_up_nk (by decide), he]
  have m7 : (fx_up (fx_up M 133 5 0) 133 7 0) 133 7 = 0 := fx_up_self _ _ _ _
  have m5 : (fx_up (fx_up M 133 5 0) 133 7 0) 133 5 = 0 := by rw [fx_up_nk (by decide), fx_up_self]
  have mq : ∀ q : Int, (fx_up (fx_up M 133 5 0) 133 7 0) 135 q = M 135 q := fun q => by rw [fx_up_na (by decide), fx_up_na (by decide)]
  have hm : ms_at (fx_up (fx_up M 133 5 0) 133 7 0) := by
    refine ⟨by rw [m7]; decide, by rw [m7, m3]; decide, by rw [m3]; decide, fun j j0 j1 => ?_⟩
    rw [mq, hq j j0 (by omega)]
    exact bC j j0 (by omega)
  refine s219 (sp_scanWord hm (by omega) (by omega) (by omega) ?_)
  rw [m3, m7, show ((44 : Int) + 1 - 0).toNat = 45 from rfl, swl_check (fun q q0 q1 => by rw [mq]; exact hq q q0 q1)]
  have ew : wln (wrd 11) = 5 := by decide +kernel
  have e0 : (0 : Int) + (if (11 : Int) < 0 then (5 : Int) else (wln (wrd 11) : Int)) = 5 := by
    rw [ew]
    rfl
  show wp (kcs L xs) (d + 9) 219 17 [some (jR 133), none] [jI 11] (fx_up (fx_up (fx_up M 133 5 0) 133 7 0) 133 7 (0 + (if (11 : Int) < 0 then (5 : Int) else (wln (wrd 11) : Int)))) Q
  rw [e0]
  have p3 : (fx_up (fx_up (fx_up M 133 5 0) 133 7 0) 133 7 5) 133 3 = 6 := by rw [fx_up_nk (by decide), m3]
  have p7 : (fx_up (fx_up (fx_up M 133 5 0) 133 7 0) 133 7 5) 133 7 = 5 := fx_up_self _ _ _ _
  have p5 : (fx_up (fx_up (fx_up M 133 5 0) 133 7 0) 133 7 5) 133 5 = 0 := by rw [fx_up_nk (by decide), m5]
  have pq : ∀ q : Int, (fx_up (fx_up (fx_up M 133 5 0) 133 7 0) 133 7 5) 135 q = M 135 q := fun q => by rw [fx_up_na (by decide), mq]
  generalize fx_up (fx_up (fx_up M 133 5 0) 133 7 0) 133 7 5 = P at p3 p7 p5 pq
  have hp : ms_at P := by
    refine ⟨by rw [p7]; decide, by rw [p7, p3]; decide, by rw [p3]; decide, fun j j0 j1 => ?_⟩
    rw [pq, hq j j0 (by omega)]
    exact bC j j0 (by omega)
  refine s219_17 ⟨⟨by omega, by omega⟩, fun h => by omega, fun _ => ?_⟩
  refine s225 ?_
  refine ⟨⟨by omega, by omega⟩, fun h => by omega, fun h => by omega, fun h => by omega, fun h => by omega, fun h => by omega, fun h => by omega, fun h => by omega, fun h => by omega, fun h => by omega, fun h => by omega, fun h => by omega, fun _ => ?_, fun h => by omega, fun h => by omega, fun h => by omega, fun h => by omega, fun h => by omega, fun h => by omega, fun h => by omega, fun h => by omega, fun h => by omega, fun h => by omega, fun h => by omega, fun h => by omega, fun h => by omega, fun h => by omega, fun h => by omega, fun h => by omega, fun h => by omega, fun h => by omega, fun h => by omega, fun h => by omega, fun h => by omega, fun h => by omega, fun h => by omega, fun h => by omega, fun h => by omega, fun h => by omega, fun h => by omega, fun h => by omega, fun h => by omega, fun h => by omega, fun h => by omega, fun h => by omega, fun h => by omega, fun h => by omega⟩
  refine sp_isByte hp ⟨by omega, by omega⟩ (fun _ _ => ?_) (fun h => absurd ⟨by omega, by rw [p7, pq, hq 5 (by omega) (by omega)]; rfl⟩ h)
  rw [p7]
  have r7 : (fx_up (fx_up (fx_up P 133 7 (5 + 1)) 133 24 0) 141 0 0) 133 7 = 6 := by rw [fx_up_na (by decide), fx_up_nk (by decide), fx_up_self]; rfl
  have r3 : (fx_up (fx_up (fx_up P 133 7 (5 + 1)) 133 24 0) 141 0 0) 133 3 = 6 := by rw [fx_up_na (by decide), fx_up_nk (by decide), fx_up_nk (by decide), p3]
  have r5 : (fx_up (fx_up (fx_up P 133 7 (5 + 1)) 133 24 0) 141 0 0) 133 5 = 0 := by rw [fx_up_na (by decide), fx_up_nk (by decide), fx_up_nk (by decide), p5]
  have rq : ∀ q : Int, (fx_up (fx_up (fx_up P 133 7 (5 + 1)) 133 24 0) 141 0 0) 135 q = M 135 q := fun q => by rw [fx_up_na (by decide), fx_up_na (by decide), fx_up_na (by decide), pq]
  refine s225_303 ⟨⟨by omega, by omega⟩, fun h => by omega, fun _ => s246 ?_⟩
  generalize fx_up (fx_up (fx_up P 133 7 (5 + 1)) 133 24 0) 141 0 0 = R at r7 r3 r5 rq
  have hrm : ms_at R := by
    refine ⟨by rw [r7]; decide, by rw [r7, r3]; decide, by rw [r3]; decide, fun j j0 j1 => ?_⟩
    rw [rq, hq j j0 (by omega)]
    exact bC j j0 (by omega)
  refine s247 (sp_here hrm ?_)
  rw [if_neg (by omega)]
  refine s247_4 ⟨⟨by omega, by omega⟩, fun h => by omega, fun _ => ⟨⟨by omega, by omega⟩, fun h => by omega, fun _ => ⟨⟨by omega, by omega⟩, fun h => by omega, fun _ => ⟨⟨by omega, by omega⟩, fun h => by omega, fun _ => ⟨⟨by omega, by omega⟩, fun h => by omega, fun _ => ?_⟩⟩⟩⟩⟩
  refine s246_16 ⟨⟨by omega, by omega⟩, fun h => absurd rfl h, fun _ => s225_310 ⟨⟨by omega, by omega⟩, ?_, ?_⟩⟩
  · decide
  rw [if_pos rfl]
  refine s219_27 ⟨⟨by omega, by omega⟩, fun _ => ?_, fun h => absurd rfl h⟩
  exact mbad (K := fun _ => True) (by omega) (by omega) r5 (fun M' h5 => s219_52 (by rw [h5]; exact K _))
end CHK
theorem m_word_letters : wls (wrd 11) = [99, 104, 101, 99, 107] := by decide +kernel
/-- the reference writes the word into its request -/
theorem mck_loop {L : Nat} {xs : Nat → Int32} {d : Nat} {Q : Option fx_V → fx_M → Prop} : ∀ (k j : Nat) (M : fx_M), j + k = 5 → (∀ q : Int, 0 ≤ q → q < j → M 135 q = bsC q) → (∀ M', (∀ q : Int, 0 ≤ q → q < 5 → M' 135 q = bsC q) → (∀ b i, b ≠ 135 → M' b i = M b i) → wp (kcs L xs) (d + 3) 422 45 [some (jR 133), none, none, some (jI 0)] [] (fx_up M' 135 5 32) Q) → wp (kcs L xs) (d + 3) 422 13 [some (jR 133), some (jL (wrd 11)), none, some (jI j)] [] M Q
  | 0, j, M, hj, hq, K => s422_13 ⟨⟨by omega, by omega⟩, fun _ => K M (fun q q0 q1 => hq q q0 (by omega)) (fun _ _ _ => rfl), fun h => by omega⟩
  | k + 1, j, M, hj, hq, K => by
    have wok : w_ok (wrd 11) := wrd_ok (by omega) (by omega)
    have ew : wln (wrd 11) = 5 := by decide +kernel
    refine s422_13 ⟨⟨by omega, by omega⟩, fun h => by omega, fun _ => sp_letterOf wok ⟨by omega, by omega⟩ (s422_28 ⟨⟨by omega, by omega⟩, ?_⟩)⟩
    have el : wlt (wrd 11) j = bsC j := by
      have hf : ∀ n : Fin 5, wlt (wrd 11) ((n : Nat) : Int) = bsC ((n : Nat) : Int) := by decide +kernel
      exact hf ⟨j, by omega⟩
    have ih := mck_loop (L := L) (xs := xs) (d := d) (Q := Q) k (j + 1) (fx_up M 135 j (wlt (wrd 11) j)) (by omega) (fun q q0 q1 => by
      by_cases hqj : q = j
      · rw [hqj, fx_up_self, el]
      · rw [fx_up_nk hqj]
        exact hq q q0 (by omega)) (fun M' h1 h2 => K M' h1 (fun b i hb => by rw [h2 b i hb, fx_up_na hb]))
    have e1 : ((j + 1 : Nat) : Int) = (j : Int) + 1 := by omega
    rw [e1] at ih
    exact ih
theorem p1_check {L : Nat} {xs : Nat → Int32} {M : fx_M} (h : fx_st M) : lw_call (kcs L xs) 999 206 422 [] M (fun _ => True) := by
  have v31 : M 3 1 = 0 := st_get h 3 1 (by decide +kernel) (by decide +kernel)
  have v1335 : M 133 5 = 0 := st_get h 133 5 (by decide +kernel) (by decide +kernel)
  have v2 : ∀ j : Int, 0 ≤ j → j < 5606 → M 2 j = 0 := by
    intro j j0 j1
    rw [st_arr h (a := 2) (t := 1) (n := 5606) (by decide +kernel) j0 j1]
    unfold fx_i0
    have : lx_fd xM0 2 = none := by decide +kernel
    rw [this]
  refine s206 (s63 fx_out5 (s206_7 (sp_puts fx_out5 lt_1000181 ?_ ?_)))
  · unfold o_ok
    rw [fx_up_self]
    omega
  have ob : ∀ (N : fx_M), N 5 1 = 0 → (o_app N 5 ([99, 104, 101, 99, 107, 32] : List Int)) 5 1 = 6 ∧ ∀ q : Int, 0 ≤ q → q < 6 → (o_app N 5 ([99, 104, 101, 99, 107, 32] : List Int)) 6 q = bsC q := by
    intro N hN
    have ol := fx_ol5
    refine ⟨?_, fun q q0 q1 => ?_⟩
    · rw [o_app_len (by rw [hN, ol]; decide), hN]
      rfl
    · have hc : q = 0 ∨ q = 1 ∨ q = 2 ∨ q = 3 ∨ q = 4 ∨ q = 5 := by omega
      have st : ∀ (N : fx_M) (c k k' : Int), N 5 1 = k → k < 512 → k' = k + 1 → o_put N 5 c = fx_up (fx_up N 6 k c) 5 1 k' := by
        intro N c k k' hk hlt hk'
        unfold o_put
        rw [hk, ol, if_pos (show k < ((512 : Nat) : Int) by omega), hk']
      unfold o_app o_app o_app o_app o_app o_app o_app
      rw [st N 99 0 1 hN (by omega) rfl]
      rw [st _ 104 1 2 (fx_up_self _ _ _ _) (by omega) rfl]
      rw [st _ 101 2 3 (fx_up_self _ _ _ _) (by omega) rfl]
      rw [st _ 99 3 4 (fx_up_self _ _ _ _) (by omega) rfl]
      rw [st _ 107 4 5 (fx_up_self _ _ _ _) (by omega) rfl]
      rw [st _ 32 5 6 (fx_up_self _ _ _ _) (by omega) rfl]
      rcases hc with rfl | rfl | rfl | rfl | rfl | rfl <;> simp [fx_up, bsC]
  have hob := ob (fx_up M 5 1 0) (fx_up_self _ _ _ _)
  have hon : ∀ b j, b ≠ 5 → b ≠ 6 → (o_app (fx_up M 5 1 0) 5 ([99, 104, 101, 99, 107, 32] : List Int)) b j = M b j := fun b j h1 h2 => by
    rw [o_app_ne h1 h2, fx_up_na h1]
  show wp (kcs L xs) 999 206 16 [some (jR 0)] [] (o_app (fx_up M 5 1 0) 5 ([99, 104, 101, 99, 107, 32] : List Int)) _
  generalize o_app (fx_up M 5 1 0) 5 ([99, 104, 101, 99, 107, 32] : List Int) = N at hob hon
  obtain ⟨hN1, hN2⟩ := hob
  have hN3 : N 3 1 = 0 := by rw [hon 3 1 (by decide) (by decide), v31]
  refine s206_16 ?_
  have c51 : ∀ n : Int, (fx_cpy N 6 0 2 0 n) 5 1 = 6 := fun n => by
    unfold fx_cpy
    rw [if_neg (by omega), hN1]
  have c31 : ∀ n : Int, (fx_cpy N 6 0 2 0 n) 3 1 = 0 := fun n => by
    unfold fx_cpy
    rw [if_neg (by omega), hN3]
  rw [c51, c31, hN1]
  have cc : (fx_cpy (fx_cpy N 6 0 2 0 6) 4 0 2 6 0) = fx_cpy N 6 0 2 0 6 := by
    funext b j
    unfold fx_cpy
    rw [if_neg (by omega)]
  rw [cc, c51, c31]
  refine ⟨⟨by omega, by omega, by omega, by omega, by omega⟩, ⟨by omega, by omega, by omega, by omega, by omega⟩, ?_⟩
  have q2 : ∀ q : Int, 0 ≤ q → q < 6 → (fx_cpy N 6 0 2 0 6) 2 q = bsC q := fun q q0 q1 => by
    unfold fx_cpy
    rw [if_pos (by omega), show (0 : Int) + (q - 0) = q by omega]
    exact hN2 q q0 q1
  have q3 : ∀ j : Int, 0 ≤ j → j < 5606 → 0 ≤ (fx_cpy N 6 0 2 0 6) 2 j ∧ (fx_cpy N 6 0 2 0 6) 2 j ≤ 65535 := by
    intro j j0 j1
    by_cases hj : j < 6
    · rw [q2 j j0 hj]
      have hf : ∀ k : Fin 6, 0 ≤ bsC ((k : Nat) : Int) ∧ bsC ((k : Nat) : Int) ≤ 65535 := by decide +kernel
      have := hf ⟨j.toNat, by omega⟩
      rwa [show ((j.toNat : Nat) : Int) = j by omega] at this
    · unfold fx_cpy
      rw [if_neg (by omega), hon 2 j (by decide) (by decide), v2 j j0 j1]
      decide
  refine resp_check q2 q3 (fun M' h5 hk => s206_87 ⟨5, ⟨by omega, by omega⟩, by rw [h5], ?_⟩)
  have k5 : M' 133 5 = 0 := by
    rw [hk 133 5 (by decide)]
    unfold fx_cpy
    rw [if_neg (by omega), hon 133 5 (by decide) (by decide), v1335]
  refine s422 (sp_word (by omega) (by omega) (s422_10 (mck_loop 5 0 _ rfl (fun q q0 q1 => by omega) (fun M2 h1 h2 => ?_))))
  have j5 : (fx_up M2 135 5 32) 133 5 = 0 := by rw [fx_up_na (by decide), h2 133 5 (by decide), fx_up_nk (by decide), k5]
  refine s422_45 ⟨⟨⟨by omega, by omega⟩, by rw [j5]; exact ⟨by omega, by omega⟩⟩, fun _ => ?_, fun h => by omega⟩
  rw [j5]
  refine mreply_check (fun q q0 q1 => ?_) (by rw [fx_up_self]; rfl) (fun M3 => s422_89 ⟨rfl, trivial⟩)
  rw [fx_up_na (by decide)]
  by_cases hq5 : q = 5
  · rw [hq5, fx_up_self]
    rfl
  · rw [fx_up_nk hq5]
    exact h1 q q0 (by omega)
/-- the law on scripts of at most 6 ints -/
theorem p1_law : lx_law 6 := by
  refine lw_law (fun L xs M hL hM _ => ?_)
  have := lw_loop (N := 6) (d := 999) (L := L) (xs := xs) (R := fun k M => k = 0 → fx_st M) hL (by omega) (fun k M s hk hs hR => ?_) (L + 1) 0 M (by omega) (by omega) (fun _ => hM)
  · exact this
  have hk0 : k = 0 := by omega
  subst hk0
  have hM := hR rfl
  have tr : ∀ M2 : fx_M, True → (0 + 1 = 0 → fx_st M2) := fun M2 _ h => by omega
  refine ⟨fun _ => lw_call_mono (Nat.le_refl _) tr (p1_feed hM _ _ _ _ _), fun _ => lw_call_mono (Nat.le_refl _) tr (p1_ask hM (hs _)), fun _ => lw_call_mono (Nat.le_refl _) tr (p1_answer hM (hs _)), fun _ => lw_call_mono (Nat.le_refl _) tr (p1_check hM), fun _ => lw_call_mono (Nat.le_refl _) tr (p1_state hM (hs _)), fun _ => lw_call_mono (Nat.le_refl _) tr (p1_byte hM (hs _) (hs _)), fun _ => lw_call_mono (Nat.le_refl _) tr (p1_poke (hs _) (hs _) (hs _)), fun _ => tr _ trivial⟩
