/-! THE START, by the kernel: what stands in the memory behind both constructors (by gen/emit_init.py) -/
noncomputable def xM0 : List (Nat × List (Nat × Int)) := [(0, [(0, 1), (2, 2), (3, 3), (4, 5), (5, 7), (6, 11), (7, 20), (8, 29), (9, 31), (10, 34), (11, 40), (12, 45), (13, 50), (14, 53), (15, 62), (16, 125)]), (3, [(0, 4)]), (5, [(0, 6)]), (7, [(0, 8), (4, 1000001), (5, 9), (13, 10)]), (11, [(0, 1), (1, 1), (2, 1), (3, 1), (5, 12), (6, 13), (7, 14), (8, 15), (9, 16), (10, 17), (11, 18), (13, 19)]), (17, [(0, (-1)), (1, (-1)), (2, (-1)), (3, (-1)), (4, (-1)), (5, (-1)), (6, (-1)), (7, (-1)), (8, (-1))]), (20, [(0, 1), (1, 1), (2, 1), (3, 1), (5, 21), (6, 22), (7, 23), (8, 24), (9, 25), (10, 26), (11, 27), (13, 28)]), (26, [(0, (-1)), (1, (-1)), (2, (-1)), (3, (-1)), (4, (-1)), (5, (-1)), (6, (-1)), (7, (-1)), (8, (-1))]), (29, [(0, 11), (1, 3), (5, 30)]), (31, [(0, 11), (1, 3), (12, 32), (13, 33)]), (34, [(1, 35), (2, 36), (3, 37), (4, 38), (5, 39), (6, 11), (7, 3)]), (40, [(4, 41), (7, 42), (8, 43), (9, 44)]), (45, [(4, 46), (7, 47), (8, 48), (9, 49)]), (50, [(0, 11), (1, 3), (4, 51), (5, 52)]), (53, [(1, 54), (2, 55), (3, 56), (4, 57), (5, 58), (6, 59), (7, 60), (8, 61)]), (54, [(0, (-1)), (1, (-1)), (2, (-1)), (3, (-1)), (4, (-1)), (5, (-1)), (6, (-1)), (7, (-1)), (8, (-1)), (9, (-1)), (10, (-1)), (11, (-1)), (12, (-1)), (13, (-1)), (14, (-1)), (15, (-1)), (16, (-1)), (17, (-1)), (18, (-1)), (19, (-1)), (20, (-1)), (21, (-1)), (22, (-1)), (23, (-1)), (24, (-1)), (25, (-1)), (26, (-1))]), (57, [(0, (-1)), (1, (-1)), (2, (-1))]), (62, [(1, 63), (2, 64), (3, 65), (4, 66), (5, 67), (6, 68), (7, 69), (8, 70)]), (65, [(0, 71), (1, 80), (2, 89), (3, 98), (4, 107), (5, 116)]), (71, [(0, 1), (1, 1), (2, 1), (3, 1), (5, 72), (6, 73), (7, 74), (8, 75), (9, 76), (10, 77), (11, 78), (13, 79)]), (77, [(0, (-1)), (1, (-1)), (2, (-1)), (3, (-1)), (4, (-1)), (5, (-1)), (6, (-1)), (7, (-1)), (8, (-1))]), (80, [(0, 1), (1, 1), (2, 1), (3, 1), (5, 81), (6, 82), (7, 83), (8, 84), (9, 85), (10, 86), (11, 87), (13, 88)]), (86, [(0, (-1)), (1, (-1)), (2, (-1)), (3, (-1)), (4, (-1)), (5, (-1)), (6, (-1)), (7, (-1)), (8, (-1))]), (89, [(0, 1), (1, 1), (2, 1), (3, 1), (5, 90), (6, 91), (7, 92), (8, 93), (9, 94), (10, 95), (11, 96), (13, 97)]), (95, [(0, (-1)), (1, (-1)), (2, (-1)), (3, (-1)), (4, (-1)), (5, (-1)), (6, (-1)), (7, (-1)), (8, (-1))]), (98, [(0, 1), (1, 1), (2, 1), (3, 1), (5, 99), (6, 100), (7, 101), (8, 102), (9, 103), (10, 104), (11, 105), (13, 106)]), (104, [(0, (-1)), (1, (-1)), (2, (-1)), (3, (-1)), (4, (-1)), (5, (-1)), (6, (-1)), (7, (-1)), (8, (-1))]), (107, [(0, 1), (1, 1), (2, 1), (3, 1), (5, 108), (6, 109), (7, 110), (8, 111), (9, 112), (10, 113), (11, 114), (13, 115)]), (113, [(0, (-1)), (1, (-1)), (2, (-1)), (3, (-1)), (4, (-1)), (5, (-1)), (6, (-1)), (7, (-1)), (8, (-1))]), (116, [(0, 1), (1, 1), (2, 1), (3, 1), (5, 117), (6, 118), (7, 119), (8, 120), (9, 121), (10, 122), (11, 123), (13, 124)]), (122, [(0, (-1)), (1, (-1)), (2, (-1)), (3, (-1)), (4, (-1)), (5, (-1)), (6, (-1)), (7, (-1)), (8, (-1))]), (125, [(0, 126), (1, 1), (3, 127), (4, 128), (5, 129)]), (126, [(0, 1)]), (129, [(0, 130), (4, 1000001), (5, 131), (13, 132)]), (133, [(2, 134), (4, 135), (6, 136), (13, 137), (25, 138), (26, 139), (27, 140), (28, 141), (29, 142), (34, 143), (35, 144), (36, 145), (37, 146), (38, 147), (39, 148), (40, 149), (41, 150), (42, 151), (43, 152), (44, 153), (45, 154), (46, 155), (47, 156), (49, 157), (50, 158), (55, 159), (62, 160), (63, 161), (64, 162), (65, 163), (66, 164), (67, 165), (68, 166), (70, 167), (72, 168), (73, 169), (75, 170), (76, 171), (78, 172), (79, 173), (81, 174), (82, 175), (83, 176), (84, 177), (85, 178), (86, 179), (87, 180), (88, 181), (90, 182), (91, 183), (92, 184), (93, 185), (94, 186), (95, 187), (96, 1), (97, 188), (98, 189)]), (146, [(0, 1)]), (147, [(0, 1)]), (148, [(0, 1)]), (154, [(0, (-1)), (1, (-1)), (2, (-1)), (3, (-1)), (4, (-1)), (5, (-1)), (6, (-1)), (7, (-1)), (8, (-1))]), (174, [(0, (-1)), (1, (-1)), (2, (-1)), (3, (-1)), (4, (-1)), (5, (-1)), (6, (-1)), (7, (-1)), (8, (-1)), (9, (-1)), (10, (-1)), (11, (-1)), (12, (-1)), (13, (-1)), (14, (-1)), (15, (-1)), (16, (-1)), (17, (-1)), (18, (-1)), (19, (-1)), (20, (-1)), (21, (-1)), (22, (-1)), (23, (-1)), (24, (-1)), (25, (-1)), (26, (-1))]), (177, [(0, (-1)), (1, (-1)), (2, (-1))]), (188, [(0, 1)])]
noncomputable def fx_i0 (a k : Nat) : Int := match lx_fd xM0 a with
  | some r => (lx_fd r k).getD 0
  | none => 0
noncomputable def fx_agc (a n : Nat) (e : va_E) : Bool := match lx_fd xM0 a with
  | some r => (List.range n).all fun k => fx_ge e k == (lx_fd r k).getD 0
  | none => (List.range n).all fun k => fx_ge e k == 0
def fx_n0 : fx_S → Nat
  | .inl (_, n) => n
  | .inr (_, ks) => ks.length
noncomputable def fx_agr (lo hi : Nat) : Nat → List fx_S → lx_H → Bool
  | a, s :: l, e :: h => (if lo ≤ a ∧ a < hi then fx_agc a (fx_n0 s) e else true) && fx_agr lo hi (a + 1) l h
  | _, _, _ => true
noncomputable def ini_chk : Bool := match ini_a with
  | some (none, h) => h.length == 133 && (match ini_b h with
    | some (none, h') => fx_lk xLay h'
    | _ => false)
  | _ => false
noncomputable def ini_h : Option lx_H := match ini_a with
  | some (none, h) => match ini_b h with
    | some (none, h') => some h'
    | _ => none
  | _ => none
noncomputable def ini_g (lo hi : Nat) : Bool := match ini_h with
  | some h => fx_agr lo hi 0 xLay h
  | none => false
theorem ini_chk_ok : ini_chk = true := by decide +kernel
theorem ini_g0 : ini_g 0 5 = true := by decide +kernel
theorem ini_g1 : ini_g 5 133 = true := by decide +kernel
theorem ini_g2 : ini_g 133 138 = true := by decide +kernel
theorem ini_g3 : ini_g 138 190 = true := by decide +kernel
theorem ini_ok : ∃ h h' : lx_H, ini_a = some (none, h) ∧ h.length = 133 ∧ ini_b h = some (none, h') ∧ fx_lk xLay h' = true ∧ (fx_agr 0 5 0 xLay h' = true ∧ fx_agr 5 133 0 xLay h' = true ∧ fx_agr 133 138 0 xLay h' = true ∧ fx_agr 138 190 0 xLay h' = true) := by
  have h0 := ini_chk_ok
  unfold ini_chk at h0
  split at h0
  · next h e1 =>
    rw [Bool.and_eq_true] at h0
    obtain ⟨h1, h2⟩ := h0
    split at h2
    · next h' e2 =>
      have eh : ini_h = some h' := by
        unfold ini_h
        rw [e1]
        dsimp only
        rw [e2]
      have g0 := ini_g0
      have g1 := ini_g1
      have g2 := ini_g2
      have g3 := ini_g3
      unfold ini_g at g0 g1 g2 g3
      rw [eh] at g0 g1 g2 g3
      exact ⟨h, h', e1, eq_of_beq h1, e2, h2, g0, g1, g2, g3⟩
    · cases h2
  · cases h0
theorem fx_agc_ok {a n : Nat} {e : va_E} (h : fx_agc a n e = true) {k : Nat} (hk : k < n) : fx_ge e k = fx_i0 a k := by
  unfold fx_agc at h
  unfold fx_i0
  split at h
  · next r hr =>
    rw [List.all_eq_true] at h
    exact eq_of_beq (h k (by simpa using hk))
  · next hr =>
    rw [List.all_eq_true] at h
    exact eq_of_beq (h k (by simpa using hk))
theorem fx_agr_ok {lo hi : Nat} : ∀ {l : List fx_S} {h : lx_H} {a i : Nat} {s : fx_S} {e : va_E}, fx_agr lo hi a l h = true → l[i]? = some s → h[i]? = some e → lo ≤ a + i → a + i < hi → ∀ k, k < fx_n0 s → fx_ge e k = fx_i0 (a + i) k
  | [], _, _, _, _, _, _, h2, _, _, _, _, _ => by simp at h2
  | s0 :: l, [], _, _, _, _, _, _, h3, _, _, _, _ => by simp at h3
  | s0 :: l, e0 :: h, a, 0, s, e, h1, h2, h3, hl, hh, k, hk => by
    have h1 : ((if lo ≤ a ∧ a < hi then fx_agc a (fx_n0 s0) e0 else true) && fx_agr lo hi (a + 1) l h) = true := h1
    rw [Bool.and_eq_true, if_pos ⟨hl, hh⟩] at h1
    simp at h2 h3
    subst h2 h3
    exact fx_agc_ok h1.1 hk
  | s0 :: l, e0 :: h, a, i + 1, s, e, h1, h2, h3, hl, hh, k, hk => by
    have h1 : ((if lo ≤ a ∧ a < hi then fx_agc a (fx_n0 s0) e0 else true) && fx_agr lo hi (a + 1) l h) = true := h1
    rw [Bool.and_eq_true] at h1
    have := fx_agr_ok (i := i) h1.2 (by simpa using h2) (by simpa using h3) (by omega) (by omega) k hk
    rwa [show a + 1 + i = a + (i + 1) by omega] at this
theorem fx_lk_len : ∀ {l : List fx_S} {h : lx_H}, fx_lk l h = true → h.length = l.length
  | [], [], _ => rfl
  | [], e :: h, hh => by cases hh
  | s :: l, [], hh => by cases hh
  | s :: l, e :: h, hh => by
    have hh : (fx_lkc s e && fx_lk l h) = true := hh
    rw [Bool.and_eq_true] at hh
    simp [fx_lk_len hh.2]
/-- a memory that is what stands behind the constructors -/
def fx_st (M : fx_M) : Prop := ∀ (a k : Nat) (s : fx_S), xLay[a]? = some s → k < fx_n0 s → M a k = fx_i0 a k
theorem fx_st_of {h : lx_H} (h1 : fx_lk xLay h = true) (h2 : fx_agr 0 5 0 xLay h = true ∧ fx_agr 5 133 0 xLay h = true ∧ fx_agr 133 138 0 xLay h = true ∧ fx_agr 138 190 0 xLay h = true) : fx_st (fx_of h) := by
  intro a k s hs hk
  have hl := fx_lk_len h1
  have ha := (List.getElem?_eq_some_iff.mp hs).1
  have he : h[a]? = some (h[a]'(by omega)) := List.getElem?_eq_getElem (by omega)
  have hl2 : xLay.length = 190 := by decide +kernel
  have : fx_ge (h[a]'(by omega)) k = fx_i0 (0 + a) k := by
    by_cases c0 : a < 5
    · exact fx_agr_ok (a := 0) h2.1 hs he (by omega) (by omega) k hk
    · by_cases c1 : a < 133
      · exact fx_agr_ok (a := 0) h2.2.1 hs he (by omega) (by omega) k hk
      · by_cases c2 : a < 138
        · exact fx_agr_ok (a := 0) h2.2.2.1 hs he (by omega) (by omega) k hk
        · exact fx_agr_ok (a := 0) h2.2.2.2 hs he (by omega) (by omega) k hk
  rw [Nat.zero_add] at this
  show (match h[a]? with | some e => fx_ge e k | none => 0) = _
  rw [he]
  exact this
theorem fx_mk_len : ∀ (l : List fx_S) (M : fx_M) (a : Nat), (fx_mk l M a).length = l.length
  | [], _, _ => rfl
  | s :: l, M, a => by simp [fx_mk, fx_mk_len l M (a + 1)]
noncomputable def fx_ns : List fx_S → Nat
  | [] => 0
  | .inl (_, n) :: l => n + fx_ns l
  | .inr (c, _) :: l => (match xC[c]? with
    | some r => r.2.2
    | none => 0) + fx_ns l
theorem fx_mk_hs : ∀ (l : List fx_S) (M : fx_M) (a : Nat), lx_hs (fx_mk l M a) = fx_ns l
  | [], _, _ => rfl
  | .inl (t, n) :: l, M, a => by
    show n + lx_hs (fx_mk l M (a + 1)) = n + fx_ns l
    rw [fx_mk_hs l M (a + 1)]
  | .inr (c, ks) :: l, M, a => by
    show lx_es (.inr (c, fx_fs ks (M a) 0)) + lx_hs (fx_mk l M (a + 1)) = _
    rw [fx_mk_hs l M (a + 1)]
    rfl
theorem fx_room : xLay.length ≤ 600000 ∧ fx_ns xLay ≤ 7302250 := by decide +kernel
theorem q_new {m idx pc ci : Nat} {L : lx_L} {st : List Value} {h : lx_H} {kc : List va_E} {fs : List Value} (hn : xN m idx = some (ci, fs)) (hl : h.length < lx_K) : lx_ins kc m pc (.new idx) L st h = some (pc + 3, L, .ref h.length :: st, h ++ [.inr (ci, fs)]) := by
  show lx_new m idx pc L st h = _
  unfold lx_new
  rw [hn]
  exact if_pos hl
theorem cn_0 : xI 429 0 = some (.new 7) ∧ xI 429 3 = some .dup ∧ xI 429 4 = some (.invokespecial 9) ∧ xI 429 7 = some (.astore_n 1) ∧ xI 429 8 = some (.new 10) ∧ xI 429 11 = some .dup ∧ xI 429 12 = some (.invokespecial 12) ∧ xI 429 15 = some (.astore_n 2) ∧ xI 429 16 = some (.iconst 0) ∧ xI 429 17 = some (.istore_n 3) := by decide +kernel
theorem cn_1 : xS 429 (.invokespecial 9) = some (0, 1, 4) ∧ xS 429 (.invokespecial 12) = some (213, 1, 4) ∧ xM 0 = 1 ∧ xM 213 = 1 ∧ xS 429 (.new 7) = none ∧ xS 429 (.new 10) = none := by decide +kernel
theorem cn_2 : xN 429 7 = some (0, xd0) ∧ xN 429 10 = some (12, xd12) := ⟨rfl, rfl⟩
/-- the law's claim out of its loop, from every memory that stands behind the constructors -/
theorem lw_law {N : Nat} (H : ∀ (L : Nat) (xs : Nat → Int32) (M : fx_M), L ≤ N → fx_st M → ini_h = some (fx_hp M) → wp (kcs L xs) 1000 429 18 [some (jR 1000000), some (jR 0), some (jR 133), some (jI 0)] [] M (fun v _ => v = some (jI 1))) : lx_law N := by
  intro L xs hL
  obtain ⟨h, h', e1, hlen, e2, hk, hg⟩ := ini_ok
  obtain ⟨v, M', hv, hev⟩ := H L xs (fx_of h') hL (fx_st_of hk hg) (by
    unfold ini_h
    rw [e1]
    dsimp only
    rw [e2, fx_of_ok hk])
  subst hv
  have hp : fx_hp (fx_of h') = h' := fx_of_ok hk
  rw [hp] at hev
  have K := hev (lx_s1 (lx_s1 (lx_s1 [(0, .ref lx_K)] 1 (.ref 0)) 2 (.ref 133)) 3 (.int 0)) (by
    intro i v hi
    match i, hi with
    | 0, hi => cases hi; rfl
    | 1, hi => cases hi; rfl
    | 2, hi => cases hi; rfl
    | 3, hi => cases hi; rfl
    | i + 4, hi => simp at hi)
  obtain ⟨i0, i3, i4, i7, i8, i11, i12, i15, i16, i17⟩ := cn_0
  obtain ⟨s4, s12, m0, m213, s0, s8⟩ := cn_1
  obtain ⟨n0, n8⟩ := cn_2
  have hlt : h.length < lx_K := by
    rw [hlen]
    decide +kernel
  have K0 : lx_ev (kcs L xs) 1000 429 0 [(0, .ref lx_K)] [] [] (some (.int 1), fx_hp M') := by
    refine ev_ins i0 rfl s0 (q_new n0 (by decide +kernel)) ?_
    refine ev_ins i3 rfl rfl rfl ?_
    refine ev_call (d := 999) (r1 := (none, h)) i4 s4 ?_ (ev_mono (kcb_le L xs) (by omega) ⟨3000, e1⟩) ?_
    · show (decide _ && decide _ && decide ((lg_sl [Value.ref 0]).length ≤ xM 0) && _) = true
      rw [m0]
      rfl
    refine ev_ins i7 rfl rfl rfl ?_
    refine ev_ins i8 rfl s8 (q_new n8 hlt) ?_
    rw [hlen]
    refine ev_ins i11 rfl rfl rfl ?_
    refine ev_call (d := 999) (r1 := (none, h')) i12 s12 ?_ (ev_mono (kcb_le L xs) (by omega) ⟨3000, e2⟩) ?_
    · show (decide _ && decide _ && decide ((lg_sl [Value.ref 133]).length ≤ xM 213) && _) = true
      rw [m213]
      rfl
    refine ev_ins i15 rfl rfl rfl ?_
    refine ev_ins i16 rfl rfl rfl ?_
    refine ev_ins i17 rfl rfl rfl ?_
    exact K
  obtain ⟨n, hn⟩ := K0
  refine ⟨n, fx_hp M', hn, ?_, ?_⟩
  · unfold fx_hp
    rw [fx_mk_len]
    exact fx_room.1
  · unfold fx_hp
    rw [fx_mk_hs]
    exact fx_room.2
