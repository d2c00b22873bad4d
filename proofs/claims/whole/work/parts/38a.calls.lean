/-! THE CALLS: the relation that every call keeps; the tape. -/
theorem bmod_256 (a : Int) : a.bmod (2 ^ 32) % 256 = a % 256 := by
  have e : ((2 ^ 32 : Nat) : Int) = 4294967296 := rfl
  rw [Int.bmod_def, e]
  split <;> omega
theorem fx_ushr_n {x : Int} {t : Nat} (ht : t < 32) : fx_ushr x (t : Int) = (((x % 4294967296).toNat / 2 ^ t : Nat) : Int).bmod (2 ^ 32) := by
  have h : ∀ n : Fin 32, ((Int32.ofInt ((n : Nat) : Int)).toUInt32 &&& Int32.toUInt32 31).toNat % 32 = (n : Nat) := by decide +kernel
  have h1 := h ⟨t, ht⟩
  dsimp only at h1
  have h2 : (Int32.ofInt x).toUInt32.toNat = (x % 4294967296).toNat := by
    rw [← fx_tn32]
    rfl
  unfold fx_ushr
  rw [← Int32.toInt_toBitVec]
  show BitVec.toInt ((Int32.ofInt x).toUInt32 >>> ((Int32.ofInt (t : Int)).toUInt32 &&& Int32.toUInt32 31)).toBitVec = _
  rw [BitVec.toInt_eq_toNat_bmod, UInt32.toNat_toBitVec, UInt32.toNat_shiftRight, h1, h2, Nat.shiftRight_eq_div_pow]
theorem tpb_24 {x : Int} : tpb x 24 = x / 16777216 % 256 := by
  have h : fx_ushr x 24 = (((x % 4294967296).toNat / 2 ^ 24 : Nat) : Int).bmod (2 ^ 32) := fx_ushr_n (t := 24) (by decide)
  unfold tpb
  rw [fx_and_255, h, bmod_256]
  omega
theorem tpb_16 {x : Int} : tpb x 16 = x / 65536 % 256 := by
  have h : fx_ushr x 16 = (((x % 4294967296).toNat / 2 ^ 16 : Nat) : Int).bmod (2 ^ 32) := fx_ushr_n (t := 16) (by decide)
  unfold tpb
  rw [fx_and_255, h, bmod_256]
  omega
theorem tpb_8 {x : Int} : tpb x 8 = x / 256 % 256 := by
  have h : fx_ushr x 8 = (((x % 4294967296).toNat / 2 ^ 8 : Nat) : Int).bmod (2 ^ 32) := fx_ushr_n (t := 8) (by decide)
  unfold tpb
  rw [fx_and_255, h, bmod_256]
  omega
theorem tpb_0 {x : Int} : tpb x 0 = x % 256 := by
  have h : fx_ushr x 0 = (((x % 4294967296).toNat / 2 ^ 0 : Nat) : Int).bmod (2 ^ 32) := fx_ushr_n (t := 0) (by decide)
  unfold tpb
  rw [fx_and_255, h, bmod_256]
  omega
theorem tmb_e {x : Int} (hx : fx_in32 x) : tmb x 3 = x / 16777216 % 256 ∧ tmb x 2 = x / 65536 % 256 ∧ tmb x 1 = x / 256 % 256 ∧ tmb x 0 = x % 256 := by
  have h3 : fx_shr x (8 * 3) = x / 16777216 := fx_shr_eq hx ⟨by omega, by omega⟩
  have h2 : fx_shr x (8 * 2) = x / 65536 := fx_shr_eq hx ⟨by omega, by omega⟩
  have h1 : fx_shr x (8 * 1) = x / 256 := fx_shr_eq hx ⟨by omega, by omega⟩
  have h0 : fx_shr x (8 * 0) = x / 1 := fx_shr_eq hx ⟨by omega, by omega⟩
  unfold tmb
  rw [h3, h2, h1, h0, fx_and_255, fx_and_255, fx_and_255, fx_and_255]
  exact ⟨rfl, rfl, rfl, by omega⟩
/-- the four bytes of a number -/
def by4 (x : Int) : List Int := [x / 16777216 % 256, x / 65536 % 256, x / 256 % 256, x % 256]
def tpA : fx_M → List Int → fx_M
  | M, [] => M
  | M, c :: l => tpA (tp1 M c) l
def tmA : fx_M → List Int → fx_M
  | M, [] => M
  | M, c :: l => tmA (tm1 M c) l
theorem tp4_A {M : fx_M} {x : Int} : tp4 M x = tpA M (by4 x) := by
  unfold tp4 by4
  rw [tpb_24, tpb_16, tpb_8, tpb_0]
  rfl
theorem tm4_A {M : fx_M} {x : Int} (hx : fx_in32 x) : tm4 M x = tmA M (by4 x) := by
  obtain ⟨a, b, c, d⟩ := tmb_e hx
  unfold tm4 by4
  rw [a, b, c, d]
  rfl
theorem tpA_app : ∀ {l m : List Int} {M : fx_M}, tpA (tpA M l) m = tpA M (l ++ m)
  | [], _, _ => rfl
  | c :: l, m, M => tpA_app (l := l) (m := m) (M := tp1 M c)
theorem tmA_app : ∀ {l m : List Int} {M : fx_M}, tmA (tmA M l) m = tmA M (l ++ m)
  | [], _, _ => rfl
  | c :: l, m, M => tmA_app (l := l) (m := m) (M := tm1 M c)
theorem tpA_ne {b : Nat} {j : Int} (h : ¬ (b = 0 ∧ j = 1)) (h1 : b ≠ 1) : ∀ {l : List Int} {M : fx_M}, (tpA M l) b j = M b j
  | [], _ => rfl
  | c :: l, M => by
    show (tpA (tp1 M c) l) b j = M b j
    rw [tpA_ne h h1 (l := l)]
    unfold tp1
    rw [fx_up_ne h, fx_up_na h1]
theorem tmA_ne {b : Nat} {j : Int} (h : ¬ (b = 133 ∧ j = 1)) (h1 : b ≠ 134) : ∀ {l : List Int} {M : fx_M}, (tmA M l) b j = M b j
  | [], _ => rfl
  | c :: l, M => by
    show (tmA (tm1 M c) l) b j = M b j
    rw [tmA_ne h h1 (l := l)]
    unfold tm1
    rw [fx_up_ne h, fx_up_na h1]
theorem tpA_len : ∀ {l : List Int} {M : fx_M}, (tpA M l) 0 1 = M 0 1 + l.length
  | [], M => (Int.add_zero _).symm
  | c :: l, M => by
    show (tpA (tp1 M c) l) 0 1 = _
    rw [tpA_len (l := l), tp1_len, List.length_cons]
    omega
theorem tmA_len : ∀ {l : List Int} {M : fx_M}, (tmA M l) 133 1 = M 133 1 + l.length
  | [], M => (Int.add_zero _).symm
  | c :: l, M => by
    show (tmA (tm1 M c) l) 133 1 = _
    rw [tmA_len (l := l), tm1_len, List.length_cons]
    omega
theorem tpA_at : ∀ {l : List Int} {M : fx_M} {j : Int}, j < M 0 1 + l.length → (tpA M l) 1 j = if j < M 0 1 then M 1 j else l.getD (j - M 0 1).toNat 0
  | [], M, j, h => by
    rw [if_pos (by rw [List.length_nil] at h; omega)]
    rfl
  | c :: l, M, j, h => by
    rw [List.length_cons] at h
    show (tpA (tp1 M c) l) 1 j = _
    rw [tpA_at (l := l) (by rw [tp1_len]; omega), tp1_len]
    by_cases e : j < M 0 1
    · rw [if_pos (by omega), if_pos e]
      unfold tp1
      rw [fx_up_na (by decide), fx_up_nk (by omega)]
    · rw [if_neg e]
      by_cases e2 : j = M 0 1
      · rw [if_pos (by omega), e2]
        unfold tp1
        rw [fx_up_na (by decide), fx_up_self, show (M 0 1 - M 0 1).toNat = 0 by omega]
        rfl
      · rw [if_neg (by omega), show (j - M 0 1).toNat = (j - (M 0 1 + 1)).toNat + 1 by omega]
        rfl
theorem tmA_at : ∀ {l : List Int} {M : fx_M} {j : Int}, j < M 133 1 + l.length → (tmA M l) 134 j = if j < M 133 1 then M 134 j else l.getD (j - M 133 1).toNat 0
  | [], M, j, h => by
    rw [if_pos (by rw [List.length_nil] at h; omega)]
    rfl
  | c :: l, M, j, h => by
    rw [List.length_cons] at h
    show (tmA (tm1 M c) l) 134 j = _
    rw [tmA_at (l := l) (by rw [tm1_len]; omega), tm1_len]
    by_cases e : j < M 133 1
    · rw [if_pos (by omega), if_pos e]
      unfold tm1
      rw [fx_up_na (by decide), fx_up_nk (by omega)]
    · rw [if_neg e]
      by_cases e2 : j = M 133 1
      · rw [if_pos (by omega), e2]
        unfold tm1
        rw [fx_up_na (by decide), fx_up_self, show (M 133 1 - M 133 1).toNat = 0 by omega]
        rfl
      · rw [if_neg (by omega), show (j - M 133 1).toNat = (j - (M 133 1 + 1)).toNat + 1 by omega]
        rfl
def by20 (a b c x e : Int) : List Int := by4 a ++ by4 b ++ by4 c ++ by4 x ++ by4 e
theorem tp20_A {M : fx_M} {a b c x e : Int} : tp20 M a b c x e = tpA M (by20 a b c x e) := by
  unfold tp20 by20
  rw [tp4_A, tp4_A, tp4_A, tp4_A, tp4_A, tpA_app, tpA_app, tpA_app, tpA_app]
  simp only [List.append_assoc]
theorem tm20_A {M : fx_M} {a b c x e : Int} (ha : fx_in32 a) (hb : fx_in32 b) (hc : fx_in32 c) (hx : fx_in32 x) (he : fx_in32 e) : tm20 M a b c x e = tmA (fx_up M 133 0 0) (by20 a b c x e) := by
  unfold tm20 by20
  rw [tm4_A ha, tm4_A hb, tm4_A hc, tm4_A hx, tm4_A he, tmA_app, tmA_app, tmA_app, tmA_app]
  simp only [List.append_assoc]
theorem by20_b {a b c x e : Int} : (by20 a b c x e).length = 20 ∧ ∀ y ∈ by20 a b c x e, 0 ≤ y ∧ y ≤ 255 := by
  have h4 : ∀ z : Int, ∀ y ∈ by4 z, 0 ≤ y ∧ y ≤ 255 := fun z y hy => by
    unfold by4 at hy
    simp only [List.mem_cons, List.not_mem_nil, or_false] at hy
    omega
  refine ⟨rfl, fun y hy => ?_⟩
  unfold by20 at hy
  simp only [List.mem_append] at hy
  rcases hy with (((h | h) | h) | h) | h
  · exact h4 a y h
  · exact h4 b y h
  · exact h4 c y h
  · exact h4 x y h
  · exact h4 e y h
/-- tapes alike -/
def tpR (M : fx_M) : Prop := M 133 1 = M 0 1 ∧ 0 ≤ M 0 1 ∧ M 0 1 ≤ 3200 ∧ ∀ j : Int, 0 ≤ j → j < M 0 1 → M 134 j = M 1 j ∧ 0 ≤ M 1 j ∧ M 1 j ≤ 255
def bytR (M : fx_M) : Prop := ∀ j : Int, 0 ≤ j → j < 5606 → 0 ≤ M 2 j ∧ M 2 j ≤ 65535
/-- the relation behind k calls -/
def lwR (k : Nat) (M : fx_M) : Prop := k ≤ 600 ∧ ∃ (S : HS) (A : List Int), cRl M S ∧ mRl M S ∧ hO2 k S ∧ aOk A ∧ ctx M A ∧ mtq M A ∧ tpR M ∧ bytR M
theorem ctx_fr {M N : fx_M} {A : List Int} (h : ctx M A) (f : ∀ b j, b = 3 ∨ b = 4 → N b j = M b j) : ctx N A := ⟨by rw [f 3 1 (by omega)]; exact h.1, fun i hi => by rw [f 4 _ (by omega)]; exact h.2 i hi⟩
theorem mtq_fr2 {M N : fx_M} {A : List Int} (h : mtq M A) (f5 : N 133 5 = M 133 5) (f : ∀ j, N 136 j = M 136 j) : mtq N A := ⟨by rw [f5]; exact h.1, fun i hi => by rw [f _]; exact h.2 i hi⟩
/-- what leaves the state as it is -/
theorem lwR_fr {k : Nat} {M N : fx_M} (h : lwR k M) (hk : k + 1 ≤ 600) (f : ∀ b j, ¬ (b = 0 ∧ j = 1) → b ≠ 1 → ¬ (b = 133 ∧ (j = 0 ∨ j = 1)) → b ≠ 134 → N b j = M b j) (ht : tpR N) : lwR (k + 1) N := by
  obtain ⟨h0, S, A, h1, h2, h3, h4, h5, h6, h7, h8⟩ := h
  refine ⟨hk, S, A, cRl_fr h1 h3.1.2.2.2.2.1 (fun b j hb => f b j (by omega) (by omega) (by omega) (by omega)), mRl_fr h2 h3.1 (fun b j hb => by
    have := mCl_b hb
    exact f b j (by omega) (by omega) (by omega) (by omega)), h2_same h3 (by omega), h4, ctx_fr h5 (fun b j hb => f b j (by omega) (by omega) (by omega) (by omega)), mtq_fr2 h6 (f 133 5 (by omega) (by omega) (by omega) (by omega)) (fun j => f 136 j (by omega) (by omega) (by omega) (by omega)), ht, fun j j0 j1 => by rw [f 2 j (by omega) (by omega) (by omega) (by omega)]; exact h8 j j0 j1⟩
theorem tpR_up {M : fx_M} (h : tpR M) : tpR (fx_up M 133 0 0) := by
  have e : ∀ b j, ¬ (b = 133 ∧ j = 0) → (fx_up M 133 0 0) b j = M b j := fun b j hb => fx_up_ne hb
  unfold tpR
  rw [e 133 1 (by omega), e 0 1 (by omega)]
  exact ⟨h.1, h.2.1, h.2.2.1, fun j j0 j1 => by rw [e 134 j (by omega), e 1 j (by omega)]; exact h.2.2.2 j j0 j1⟩
theorem lwR_up {k : Nat} {M : fx_M} (h : lwR k M) (hk : k + 1 ≤ 600) : lwR (k + 1) (fx_up M 133 0 0) := by
  obtain ⟨h0, S, A, h1, h2, h3, h4, h5, h6, h7, h8⟩ := h
  exact lwR_fr ⟨h0, S, A, h1, h2, h3, h4, h5, h6, h7, h8⟩ hk (fun b j b1 b2 b3 b4 => fx_up_ne (by omega)) (tpR_up h7)
section LCA
variable {L : Nat} {xs : Nat → Int32} {k : Nat} {M : fx_M}
theorem l_feed (h : lwR k M) (hk : k + 1 ≤ 600) {a b c x e : Int} (ha : fx_in32 a) (hb : fx_in32 b) (hc : fx_in32 c) (hx : fx_in32 x) (he : fx_in32 e) : lw_call (kcs L xs) 999 14 216 [jI a, jI b, jI c, jI x, jI e] M (lwR (k + 1)) := by
  obtain ⟨h0, S, A, h1, h2, h3, h4, h5, h6, h7, h8⟩ := h
  obtain ⟨t1, t2, t3, t4⟩ := h7
  have hR : lwR k M := ⟨h0, S, A, h1, h2, h3, h4, h5, h6, ⟨t1, t2, t3, t4⟩, h8⟩
  refine sp_feed (d := 997) ⟨t2, t3⟩ (fun hl => ⟨M 0 1 + 20, ⟨by omega, by omega⟩, rfl, ?_⟩) (fun hl => ⟨-1, ⟨by omega, by omega⟩, rfl, ?_⟩)
  · rw [tp20_A]
    have n1 : (tpA M (by20 a b c x e)) 133 1 = M 0 1 := by rw [tpA_ne (by omega) (by omega), t1]
    refine sp_mfeed (d := 997) (by omega) (fun _ => ⟨by rw [n1], ?_⟩) (fun hg => by omega)
    rw [tm20_A ha hb hc hx he]
    have hb20 := by20_b (a := a) (b := b) (c := c) (x := x) (e := e)
    generalize by20 a b c x e = l at n1 hb20
    have p1 : (fx_up (tpA M l) 133 0 0) 133 1 = M 0 1 := by rw [fx_up_nk (by decide), n1]
    have q0 : (tmA (fx_up (tpA M l) 133 0 0) l) 0 1 = M 0 1 + l.length := by rw [tmA_ne (by omega) (by omega), fx_up_na (by decide), tpA_len]
    refine lwR_fr hR hk (fun b j b1 b2 b3 b4 => by rw [tmA_ne (by omega) b4, fx_up_ne (by omega), tpA_ne b1 b2]) ?_
    unfold tpR
    rw [q0, tmA_len, p1]
    refine ⟨rfl, by omega, by omega, fun j j0 j1 => ?_⟩
    rw [tmA_at (by rw [p1]; exact j1), p1, tmA_ne (by omega) (by omega), fx_up_na (b := 1) (by decide), tpA_at j1]
    by_cases ej : j < M 0 1
    · rw [if_pos ej, if_pos ej, fx_up_na (by decide), tpA_ne (by omega) (by omega)]
      exact t4 j j0 ej
    · rw [if_neg ej, if_neg ej]
      refine ⟨rfl, hb20.2 _ ?_⟩
      rw [List.getD_eq_getElem?_getD, List.getElem?_eq_getElem (by omega)]
      exact List.getElem_mem _
  · refine sp_mfeed (d := 997) (by omega) (fun hg => by omega) (fun _ => ⟨rfl, lwR_up hR hk⟩)
theorem l_answer (h : lwR k M) (hk : k + 1 ≤ 600) {n : Int} (hn : fx_in32 n) : lw_call (kcs L xs) 999 205 421 [jI n] M (lwR (k + 1)) := by
  have hR := lwR_up h hk
  obtain ⟨h0, S, A, h1, h2, h3, h4, h5, h6, h7, h8⟩ := h
  have a5 := h4.2.1
  have e3 := h5.1
  have e5 := h6.1
  have no : ¬ (0 ≤ n ∧ n < M 3 1) → wc (kcs L xs) 999 421 (jR 133 :: [jI n]) M (fun v2 M2 => v2 = some (jI (-1)) ∧ lwR (k + 1) M2) := fun hc => by
    refine s421 ⟨hn, fun _ => hn, fun _ => ⟨by omega, by omega⟩, fun _ _ => ⟨by omega, by omega⟩, ?_, hR⟩
    by_cases hz : n < 0
    · rw [if_pos hz]
    · rw [if_neg hz, if_neg (by omega)]
  refine s205 ⟨hn, fun hneg => ⟨-1, ⟨by omega, by omega⟩, rfl, no (by omega)⟩, fun hp => ⟨⟨hn, ⟨by omega, by omega⟩⟩, fun hl => ⟨⟨by omega, by omega⟩, ?_⟩, fun hl => ⟨-1, ⟨by omega, by omega⟩, rfl, no (by omega)⟩⟩⟩
  obtain ⟨i, hi⟩ : ∃ i : Nat, n = (i : Int) := ⟨n.toNat, by omega⟩
  have hil : i < A.length := by omega
  have ea := h5.2 i hil
  have eb := h6.2 i hil
  have hb : A.getD i 0 ∈ A := getD_mem hil
  have hbb := h4.1 _ hb
  rw [hi, ea]
  refine ⟨A.getD i 0, ⟨by omega, by omega⟩, rfl, ?_⟩
  refine s421 ⟨⟨by omega, by omega⟩, fun _ => ⟨by omega, by omega⟩, fun _ => ⟨by omega, by omega⟩, fun _ _ => ⟨by omega, by omega⟩, ?_, hR⟩
  rw [if_neg (by omega), if_pos (by omega), eb]
theorem l_byte (h : lwR k M) (hk : k + 1 ≤ 600) {n i : Int} (hn : fx_in32 n) (hi : fx_in32 i) : lw_call (kcs L xs) 999 209 424 [jI n, jI i] M (lwR (k + 1)) := by
  have hR := lwR_up h hk
  obtain ⟨h0, S, A, h1, h2, h3, h4, h5, h6, h7, h8⟩ := h
  have hM : ∀ j : Int, 0 ≤ j → j < 1024 → M 126 j = M 188 j ∧ 0 ≤ M 126 j ∧ M 126 j ≤ 255 := fun j j0 j1 => by
    have e1 := h1.2.2.2.2.2.1
    have e2 := h2.2.2.2.2.1 j j0 j1
    have e3 := h3.1.2.2.2.2.2.2.1 j j0 j1
    rw [e1, e2]
    exact ⟨rfl, e3⟩
  have hb : (0 ≤ n ∧ n < 32 ∧ 0 ≤ i ∧ i < 32) ∨ ¬ (0 ≤ n ∧ n < 32 ∧ 0 ≤ i ∧ i < 32) := by omega
  refine s209 (s210 ⟨hn, fun _ => hn, fun _ _ => hi, fun _ _ _ => hi, ⟨by (repeat' split) <;> omega, by (repeat' split) <;> omega⟩, ?_⟩)
  rcases hb with ⟨b1, b2, b3, b4⟩ | hb
  · have hv := hM (32 * n + i) (by omega) (by omega)
    rw [if_neg (by omega), if_pos b2, if_neg (by omega), if_pos b4]
    refine s209_5 ⟨⟨by omega, by omega⟩, fun _ => ⟨by omega, by omega⟩, ?_⟩
    rw [if_neg (by omega)]
    refine ⟨M 126 (32 * n + i), ⟨by omega, by omega⟩, rfl, ?_⟩
    refine s424 ⟨hn, fun _ => hn, fun _ _ => hi, fun _ _ _ => hi, fun _ _ _ _ => ⟨by omega, by omega⟩, ?_, hR⟩
    rw [if_neg (by omega), if_pos b2, if_neg (by omega), if_pos b4, hv.1]
  · have e : (if n < 0 then (0 : Int) else (if n < 32 then ((if i < 0 then (0 : Int) else (if i < 32 then (1 : Int) else 0)) : Int) else 0)) = 0 := by
      (repeat' split) <;> omega
    rw [e]
    refine s209_5 ⟨⟨by omega, by omega⟩, fun h => absurd rfl h, ?_⟩
    rw [if_pos rfl]
    refine ⟨-1, ⟨by omega, by omega⟩, rfl, ?_⟩
    refine s424 ⟨hn, fun _ => hn, fun _ _ => hi, fun _ _ _ => hi, fun _ _ _ _ => by omega, ?_, hR⟩
    have e2 : (if n < 0 then ((-1) : Int) else (if n < 32 then ((if i < 0 then ((-1) : Int) else (if i < 32 then (M 188 ((32 * n) + i) : Int) else (-1))) : Int) else (-1))) = -1 := by
      (repeat' split) <;> omega
    rw [e2]
theorem fx_xor_b {a b : Int} (ha : 0 ≤ a ∧ a ≤ 255) (hb : 0 ≤ b ∧ b ≤ 255) : 0 ≤ fx_xor a b ∧ fx_xor a b ≤ 255 := by
  unfold fx_xor
  rw [← Int32.toInt_toBitVec, Int32.toBitVec_xor, Int32.toBitVec_ofInt, Int32.toBitVec_ofInt, BitVec.toInt_eq_toNat_bmod, BitVec.toNat_xor, fx_tn32, fx_tn32, Int.emod_eq_of_lt (by omega) (by omega), Int.emod_eq_of_lt (by omega) (by omega)]
  have h := Nat.xor_lt_two_pow (n := 8) (show a.toNat < 2 ^ 8 by omega) (show b.toNat < 2 ^ 8 by omega)
  rw [fx_bmod (by omega)]
  omega
theorem l_poke (h : lwR k M) (hk : k + 1 ≤ 600) {n i m : Int} (hn : fx_in32 n) (hi : fx_in32 i) (hm : fx_in32 m) : lw_call (kcs L xs) 999 211 425 [jI n, jI i, jI m] M (lwR (k + 1)) := by
  have hR := lwR_up h hk
  have no : ¬ (0 ≤ n ∧ n < 32 ∧ 0 ≤ i ∧ i < 32 ∧ 1 ≤ m ∧ m ≤ 255) → wc (kcs L xs) 999 425 (jR 133 :: [jI n, jI i, jI m]) M (fun v2 M2 => v2 = some (jI 0) ∧ lwR (k + 1) M2) := by
    intro hb
    refine s425 ⟨hn, fun _ => ⟨rfl, hR⟩, fun _ => ⟨hn, fun _ => ⟨rfl, hR⟩, fun _ => ⟨hi, fun _ => ⟨rfl, hR⟩, fun _ => ⟨hi, fun _ => ⟨rfl, hR⟩, fun _ => ⟨hm, fun _ => ⟨rfl, hR⟩, fun _ => ⟨hm, fun _ => by omega, fun _ => ⟨rfl, hR⟩⟩⟩⟩⟩⟩⟩
  have hb : (0 ≤ n ∧ n < 32 ∧ 0 ≤ i ∧ i < 32) ∨ ¬ (0 ≤ n ∧ n < 32 ∧ 0 ≤ i ∧ i < 32) := by omega
  refine s211 (s210 ⟨hn, fun _ => hn, fun _ _ => hi, fun _ _ _ => hi, ⟨by (repeat' split) <;> omega, by (repeat' split) <;> omega⟩, ?_⟩)
  rcases hb with ⟨b1, b2, b3, b4⟩ | hb
  · rw [if_neg (by omega), if_pos b2, if_neg (by omega), if_pos b4]
    refine s211_5 ⟨⟨by omega, by omega⟩, fun h => by omega, fun _ => ⟨hm, fun h => ⟨0, ⟨by omega, by omega⟩, rfl, no (by omega)⟩, fun h1 => ⟨hm, fun h2 => ?_, fun h => ⟨0, ⟨by omega, by omega⟩, rfl, no (by omega)⟩⟩⟩⟩
    obtain ⟨h0, S, A, g1, g2, g3, g4, g5, g6, g7, g8⟩ := h
    have hbk := g3.1.2.2.2.2.2.2.1
    have e1 : M 126 = S.2.2.2.2.1 := g1.2.2.2.2.2.1
    have e2 : M 188 (32 * n + i) = S.2.2.2.2.1 (32 * n + i) := g2.2.2.2.2.1 _ (by omega) (by omega)
    have hx := fx_xor_b (hbk (32 * n + i) (by omega) (by omega)) (b := m) ⟨by omega, h2⟩
    have ex : fx_xor (M 126 (32 * n + i)) m % 65536 = fx_xor (S.2.2.2.2.1 (32 * n + i)) m := by
      rw [e1]
      exact Int.emod_eq_of_lt hx.1 (by omega)
    refine s212 ⟨⟨by omega, by omega⟩, ⟨⟨by omega, by omega⟩, by omega, by omega⟩, s211_36 ⟨1, ⟨by omega, by omega⟩, rfl, ?_⟩⟩
    refine s425 ⟨hn, fun h => by omega, fun _ => ⟨hn, fun h => by omega, fun _ => ⟨hi, fun h => by omega, fun _ => ⟨hi, fun h => by omega, fun _ => ⟨hm, fun h => by omega, fun _ => ⟨hm, fun _ => ⟨⟨by omega, by omega⟩, ⟨by omega, by omega⟩, rfl, ?_⟩, fun h => by omega⟩⟩⟩⟩⟩⟩
    rw [ex, fx_up_na (b := 188) (by decide), fx_up_na (b := 188) (by decide), e2]
    generalize hv : fx_xor (S.2.2.2.2.1 (32 * n + i)) m = v at hx
    generalize ha : 32 * n + i = a at *
    generalize hN : fx_up (fx_up (fx_up (fx_up (fx_up M 126 a v) 125 1 0) 133 0 0) 188 a v) 133 96 0 = N
    have f : ∀ b j, ¬ (b = 126 ∧ j = a) → ¬ (b = 188 ∧ j = a) → ¬ (b = 125 ∧ j = 1) → ¬ (b = 133 ∧ (j = 0 ∨ j = 96)) → N b j = M b j := fun b j c1 c2 c3 c4 => by rw [← hN, fx_up_ne (by omega), fx_up_ne c2, fx_up_ne (by omega), fx_up_ne c3, fx_up_ne c1]
    have n126 : N 126 a = v := by rw [← hN, fx_up_na (by decide), fx_up_na (by decide), fx_up_na (by decide), fx_up_na (by decide), fx_up_self]
    have n188 : N 188 a = v := by rw [← hN, fx_up_na (by decide), fx_up_self]
    have n125 : N 125 1 = 0 := by rw [← hN, fx_up_na (by decide), fx_up_na (by decide), fx_up_na (by decide), fx_up_self]
    have n96 : N 133 96 = 0 := by rw [← hN, fx_up_self]
    obtain ⟨a1, a2, a3, a4, a5, a6, a7⟩ := g1
    obtain ⟨c1, c2, c3, c4, c5, c6⟩ := g2
    have hk1 : hO2 (k + 1) (S.1, S.2.1, S.2.2.1, 0, N 126, S.2.2.2.2.2) := by
      refine h2_b g3 (by omega) (Or.inl rfl) (fun j j0 j1 => ?_) (fun x => absurd x (by decide)) g3.1.2.2.2.2.2.2.2.2
      by_cases ej : j = a
      · rw [ej, n126]
        exact hx
      · rw [f 126 j (by omega) (by omega) (by omega) (by omega), e1]
        exact hbk j j0 j1
    obtain ⟨Y, y1, y2⟩ := a2
    refine ⟨hk, (S.1, S.2.1, S.2.2.1, 0, N 126, S.2.2.2.2.2), A, ⟨cz_fr a1 (fun b j b1 b2 => f b j (by omega) (by omega) (by omega) (by omega)), ⟨Y, cz_fr y1 (fun b j b1 b2 => f b j (by omega) (by omega) (by omega) (by omega)), y2⟩, cpv_fr a3 (fun b j b1 b2 => f b j (by omega) (by omega) (by omega) (by omega)), cct_fr a4 g3.1.2.2.2.2.1 (fun b j b1 => f b j (by omega) (by omega) (by omega) (by omega)), n125, rfl, ?_⟩, ⟨mz_uc c1 g3.1.1 (fun b j hb => ?_), mpv_fr c2 (f 133 80 (by omega) (by omega) (by omega) (by omega)) (fun b j b1 b2 => f b j (by omega) (by omega) (by omega) (by omega)), mct_uc c3 g3.1.2.2.2.2.1 (f 133 89 (by omega) (by omega) (by omega) (by omega)) (fun b j hb => ?_), n96, fun j j0 j1 => ?_, mlg_fr c6 (fun b j hb => f b j (by omega) (by omega) (by omega) (by omega))⟩, hk1, g4, ctx_fr g5 (fun b j hb => f b j (by omega) (by omega) (by omega) (by omega)), mtq_fr2 g6 (f 133 5 (by omega) (by omega) (by omega) (by omega)) (fun j => f 136 j (by omega) (by omega) (by omega) (by omega)), ?_, fun j j0 j1 => by rw [f 2 j (by omega) (by omega) (by omega) (by omega)]; exact g8 j j0 j1⟩
    · refine ⟨by rw [f 125 2 (by omega) (by omega) (by omega) (by omega)]; exact a7.1, fun q x hq => ⟨by rw [f _ _ (by omega) (by omega) (by omega) (by omega)]; exact (a7.2 q x hq).1, by rw [f _ _ (by omega) (by omega) (by omega) (by omega)]; exact (a7.2 q x hq).2⟩⟩
    · have := uc_b hb
      exact f b j (by omega) (by omega) (by omega) (by omega)
    · have : 146 ≤ b ∧ b ≤ 187 := by
        rcases hb with ⟨u, _, _, hb⟩ | hb
        · have := uc_b hb
          omega
        · omega
      exact f b j (by omega) (by omega) (by omega) (by omega)
    · show N 188 j = N 126 j
      by_cases ej : j = a
      · rw [ej, n188, n126]
      · rw [f 188 j (by omega) (by omega) (by omega) (by omega), f 126 j (by omega) (by omega) (by omega) (by omega), e1]
        exact c5 j j0 j1
    · obtain ⟨t1, t2, t3, t4⟩ := g7
      unfold tpR
      rw [f 133 1 (by omega) (by omega) (by omega) (by omega), f 0 1 (by omega) (by omega) (by omega) (by omega)]
      exact ⟨t1, t2, t3, fun j j0 j1 => by rw [f 134 j (by omega) (by omega) (by omega) (by omega), f 1 j (by omega) (by omega) (by omega) (by omega)]; exact t4 j j0 j1⟩
  · have e : (if n < 0 then (0 : Int) else (if n < 32 then ((if i < 0 then (0 : Int) else (if i < 32 then (1 : Int) else 0)) : Int) else 0)) = 0 := by
      (repeat' split) <;> omega
    rw [e]
    exact s211_5 ⟨⟨by omega, by omega⟩, fun _ => ⟨0, ⟨by omega, by omega⟩, rfl, no (by omega)⟩, fun h => absurd rfl h⟩
end LCA
