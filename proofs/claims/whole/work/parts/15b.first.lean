/-! THE FIRST CALL on fresh objects. -/
def bsW : List Int32 := [110, 101, 119, 32, 114, 117, 108, 101, 32, 101, 97, 99, 104, 32, 103, 105, 118, 101, 32, 100, 114, 111, 112, 32, 116, 101, 120, 116, 32, 108, 111, 97, 100, 32, 97, 110, 115, 119, 101, 114, 115, 32, 109, 97, 110, 121, 32, 112, 105, 99, 107, 32, 99, 108, 97, 115, 104, 32, 108, 101, 97, 115, 116, 32, 109, 97, 107, 101, 32, 119, 114, 111, 110, 103, 32, 112, 114, 111, 118, 101, 32, 99, 104, 101, 99, 107, 32, 103, 114, 97, 100, 101, 32, 104, 105, 110, 116, 32, 115, 116, 101, 112, 32, 115, 111, 108, 118, 101, 32, 116, 101, 97, 99, 104, 32, 102, 111, 114, 109, 32, 118, 97, 114, 121, 32, 99, 111, 118, 101, 114, 32, 98, 97, 114, 114, 101, 100, 32, 112, 101, 114, 115, 111, 110, 32, 112, 117, 116, 32, 117, 110, 100, 111, 32, 114, 101, 100, 111, 32, 115, 116, 97, 116, 101, 32, 109, 97, 114, 107, 32, 109, 97, 114, 107, 115, 32, 99, 111, 110, 116, 101, 115, 116, 32, 115, 101, 116, 32, 115, 117, 98, 109, 105, 116, 32, 116, 97, 98, 108, 101, 32, 107, 101, 101, 112, 32, 111, 112, 101, 110, 32, 114, 101, 109, 111, 118, 101, 32, 108, 105, 115, 116, 32, 99, 117, 116, 32, 109, 101, 110, 100, 32, 101, 120, 112, 111, 114, 116, 32, 105, 109, 112, 111, 114, 116, 32, 102, 105, 110, 100]
theorem lt_W {L : Nat} {xs : Nat → Int32} : fx_str (kcs L xs) 1000003 bsW := lt_1000003
theorem fx_out3 : fx_out 3 := by
  unfold fx_out
  simp
theorem fx_out5 : fx_out 5 := by
  unfold fx_out
  simp
theorem fx_scn7 : fx_scn 7 := by
  unfold fx_scn
  simp
theorem fx_puz11 : fx_puz 11 := by
  unfold fx_puz
  simp
theorem fx_ol3 : fx_ol 3 = 5600 := by decide +kernel
theorem fx_ol5 : fx_ol 5 = 512 := by decide +kernel
/-- the memory behind start -/
def st_m (M : fx_M) (n : Int) : fx_M := fx_up (fx_up (fx_up (fx_up (fx_up M 7 0 2) 7 1 0) 7 2 n) 7 3 0) 7 4 1000001
section FST
variable {L : Nat} {xs : Nat → Int32} {d : Nat} {M : fx_M} {Q : Option fx_V → fx_M → Prop}
theorem st_m_at {n : Int} (hn : 0 ≤ n ∧ n ≤ 5606) (hr : ∀ j : Int, 0 ≤ j → j < 5606 → 0 ≤ M 2 j ∧ M 2 j ≤ 65535) : sc_at (st_m M n) 7 2 5606 := by
  have e2 : (st_m M n) 2 = M 2 := by
    funext j
    unfold st_m
    rw [fx_up_na (by decide), fx_up_na (by decide), fx_up_na (by decide), fx_up_na (by decide), fx_up_na (by decide)]
  refine ⟨by simp [st_m, fx_up], by decide +kernel, by decide, by simp [st_m, fx_up], by simp [st_m, fx_up]; omega, by simp [st_m, fx_up]; omega, by simp [st_m, fx_up], by simp [st_m, fx_up], fun j h0 h1 => ?_⟩
  rw [e2]
  exact hr j h0 h1
theorem resp_start {n : Int} (hn : 0 ≤ n ∧ n ≤ 5606) (hr : ∀ j : Int, 0 ≤ j → j < 5606 → 0 ≤ M 2 j ∧ M 2 j ≤ 65535) (K : wp (kcs L xs) (d + 5) 17 22 [some (jR 0), some (jI n), none] [jI (chs (M 2) n 0 bsW).1] (ch_m (st_m M n) 7 (chs (M 2) n 0 bsW)) Q) : wc (kcs L xs) (d + 5) 17 [jR 0, jI n] M Q := by
  have e2 : (st_m M n) 2 = M 2 := by
    funext j
    unfold st_m
    rw [fx_up_na (by decide), fx_up_na (by decide), fx_up_na (by decide), fx_up_na (by decide), fx_up_na (by decide)]
  have e3 : (st_m M n) 7 2 = n := by simp [st_m, fx_up]
  have e4 : (st_m M n) 7 1 = 0 := by simp [st_m, fx_up]
  have e5 : (st_m M n) 7 3 = 0 := by simp [st_m, fx_up]
  refine s17 (s18 (n := 5606) fx_scn7 (by decide +kernel) (by decide) ⟨⟨by omega, by omega⟩, ⟨⟨by omega, by omega⟩, by omega, by omega⟩, ?_⟩)
  have c1 : ¬ (0 : Int) < 0 := by omega
  have c2 : ¬ (((5606 : Nat) : Int) < n) := by omega
  rw [if_neg c1, if_neg c2]
  have hS := st_m_at (M := M) hn hr
  show wp (kcs L xs) (d + 5) 17 13 [some (jR 0), some (jI n), none] [] (st_m M n) Q
  refine s17_13 (sp_choose fx_scn7 lt_W hS e5 ?_)
  rw [e2, e3, e4]
  exact K
theorem resp_bad {v1 v2 : Int} (hw : M 7 3 = 1) (h0 : 0 ≤ M 7 1) (h1 : M 7 1 < 1000000000) (K : Q none (o_app (fx_up M 3 1 0) 3 ([98, 97, 100, 32] ++ dgs (M 7 1)))) : wp (kcs L xs) (d + 5) 17 28 [some (jR 0), some (jI v1), some (jI v2)] [] M Q := by
  have e1 : (fx_up M 3 1 0) 7 3 = 1 := by rw [fx_up_na (by decide), hw]
  have e2 : (fx_up M 3 1 0) 7 1 = M 7 1 := fx_up_na (by decide)
  have ho : o_ok (fx_up M 3 1 0) 3 := by
    unfold o_ok
    rw [fx_up_self]
    omega
  refine s17_28 (s63 fx_out3 (s17_35 ⟨by rw [e1]; exact ⟨by omega, by omega⟩, fun _ => ?_, fun h => by rw [e1] at h; omega⟩))
  refine sp_puts fx_out3 lt_1000031 ho (s17_65 ?_)
  rw [o_app_ne (by decide) (by decide), e2]
  refine sp_number fx_out3 (o_ok_app ho) h0 h1 (s17_79 ?_)
  rw [o_app_app]
  exact K
theorem bad_len {p : Int} (hp : dgn p = 0) : (([98, 97, 100, 32] : List Int) ++ dgs p).length = 5 := by
  unfold dgs
  rw [hp]
  rfl
theorem resp_bad5 {v1 v2 : Int} (hw : M 7 3 = 1) (h0 : 0 ≤ M 7 1) (h1 : M 7 1 < 10) (K : ∀ M', M' 3 1 = 5 → (∀ b j, 5 < b → M' b j = M b j) → Q none M') : wp (kcs L xs) (d + 5) 17 28 [some (jR 0), some (jI v1), some (jI v2)] [] M Q := by
  have hd : dgn (M 7 1) = 0 := by
    unfold dgn
    rw [if_pos h1]
  refine resp_bad hw h0 (by omega) (K _ ?_ (fun b j hb => ?_))
  · rw [o_app_len (by rw [fx_up_self, bad_len hd, fx_ol3]; decide), fx_up_self, bad_len hd]
    rfl
  · rw [o_app_ne (by omega) (by omega), fx_up_na (by omega)]
/-- the reference's refusal -/
theorem mbad {K : fx_M → Prop} (h0 : 0 ≤ M 133 7) (h1 : M 133 7 < 10) (ho : M 133 5 = 0) (HK : ∀ M', M' 133 5 = 5 → Q none M') : wc (kcs L xs) (d + 4) 252 [jR 133, jL 6447460, jI (M 133 7)] M Q := by
  have hd : dgn (M 133 7) = 0 := by
    unfold dgn
    rw [if_pos h1]
  have hm : m_ok M := by
    unfold m_ok
    omega
  refine sp_sayCount (by unfold w_ok; omega) hm h0 (by omega) (HK _ ?_)
  have hl : (wls 6447460 ++ 32 :: dgs (M 133 7)).length = 5 := by
    unfold dgs
    rw [hd, List.length_append, wls_len]
    have : wln 6447460 = 3 := by decide +kernel
    rw [this]
    rfl
  rw [m_app_len (by rw [hl, ho]; decide), hl, ho]
  rfl
theorem mreply_none (h : ms_at (fx_up (fx_up M 133 5 0) 133 7 0)) (he : M 133 3 = 0) (K : ∀ M', Q (some (jI 5)) M') : wc (kcs L xs) (d + 6) 219 [jR 133] M Q := by
  have e3 : (fx_up (fx_up M 133 5 0) 133 7 0) 133 3 = 0 := by
    rw [fx_up_nk (by decide), fx_up_nk (by decide), he]
  have e7 : (fx_up (fx_up M 133 5 0) 133 7 0) 133 7 = 0 := fx_up_self _ _ _ _
  refine s219 (sp_scanWord h (by omega) (by omega) (by omega) ?_)
  rw [swl_end (by rw [e3, e7]; omega) _ _ _ _ (by omega) (by omega) (by omega)]
  refine s219_17 ⟨⟨by omega, by omega⟩, fun _ => ?_, fun h => by omega⟩
  refine mbad (K := fun _ => True) ?_ ?_ ?_ (fun M' h5 => s219_52 (by rw [h5]; exact K _))
  · rw [fx_up_self, e7]
    decide
  · rw [fx_up_self, e7]
    decide
  · rw [fx_up_nk (by decide), fx_up_nk (by decide), fx_up_self]
end FST
/-- what the first call asks of the start -/
theorem p1_feed {L : Nat} {xs : Nat → Int32} {M : fx_M} (h : fx_st M) (a b c x e : Int) : lw_call (kcs L xs) 999 14 216 [jI a, jI b, jI c, jI x, jI e] M (fun _ => True) := by
  have h1 : M 0 1 = 0 := st_get h 0 1 (by decide +kernel) (by decide +kernel)
  have h2 : M 133 1 = 0 := st_get h 133 1 (by decide +kernel) (by decide +kernel)
  have hp : ∀ (M : fx_M) (x : Int), (tp4 M x) 133 1 = M 133 1 := fun M x => by
    simp [tp4, tp1, fx_up]
  refine sp_feed (by omega) (fun h3 => ⟨20, ⟨by omega, by omega⟩, by rw [h1]; rfl, ?_⟩) (fun h3 => by omega)
  have e : (tp20 M a b c x e) 133 1 = 0 := by
    unfold tp20
    rw [hp, hp, hp, hp, hp, h2]
  refine sp_mfeed (by omega) (fun _ => ⟨by rw [e]; rfl, trivial⟩) (fun h3 => by omega)
theorem p1_ask {L : Nat} {xs : Nat → Int32} {M : fx_M} (h : fx_st M) {n : Int} (hn : fx_in32 n) : lw_call (kcs L xs) 999 16 218 [jI n] M (fun _ => True) := by
  have h1 : M 0 1 = 0 := st_get h 0 1 (by decide +kernel) (by decide +kernel)
  have h2 : M 133 1 = 0 := st_get h 133 1 (by decide +kernel) (by decide +kernel)
  have h3 : M 133 3 = 0 := st_get h 133 3 (by decide +kernel) (by decide +kernel)
  have none' : ∀ M' : fx_M, M' = M → (n < 0 ∨ 0 < n) → wc (kcs L xs) 999 218 (jR 133 :: [jI n]) M' (fun v2 M2 => v2 = some (jI (-1)) ∧ True) := by
    intro M' e hc
    subst e
    exact s218 ⟨hn, fun _ => ⟨rfl, trivial⟩, fun h0 => ⟨⟨hn, by omega, by omega⟩, fun h => by omega, fun _ => ⟨rfl, trivial⟩⟩⟩
  refine s16 ⟨hn, fun hneg => ⟨-1, ⟨by omega, by omega⟩, rfl, none' M rfl (Or.inl hneg)⟩, fun h0 => ⟨⟨hn, by omega, by omega⟩, fun hle => ?_, fun hgt => ⟨-1, ⟨by omega, by omega⟩, rfl, none' M rfl (Or.inr (by omega))⟩⟩⟩
  have hn0 : n = 0 := by omega
  subst hn0
  refine ⟨⟨by omega, by omega, by omega, by omega, by omega⟩, ?_⟩
  have hcp : ∀ (b : Nat) (j : Int), (fx_up (fx_cpy M 1 0 2 0 0) 0 1 0) b j = (fx_up M 0 1 0) b j := by
    intro b j
    unfold fx_up fx_cpy
    split
    · rfl
    · rw [if_neg (by omega)]
  have hcp : (fx_up (fx_cpy M 1 0 2 0 0) 0 1 0) = (fx_up M 0 1 0) := by
    funext b j
    exact hcp b j
  rw [hcp]
  have hr : ∀ j : Int, 0 ≤ j → j < 5606 → 0 ≤ (fx_up M 0 1 0) 2 j ∧ (fx_up M 0 1 0) 2 j ≤ 65535 := by
    intro j j0 j1
    rw [fx_up_na (by decide), st_arr h (a := 2) (t := 1) (n := 5606) (by decide +kernel) j0 j1]
    have : fx_i0 2 j.toNat = 0 := by
      unfold fx_i0
      have : lx_fd xM0 2 = none := by decide +kernel
      rw [this]
    rw [this]
    decide
  refine resp_start ⟨by omega, by omega⟩ hr ?_
  rw [chs_end (by omega)]
  refine s17_22 (s32 ?_)
  refine ⟨⟨by omega, by omega⟩, fun h => by omega, fun h => by omega, fun h => by omega, fun h => by omega, fun h => by omega, fun h => by omega, fun h => by omega, fun h => by omega, fun h => by omega, fun h => by omega, fun h => by omega, fun h => by omega, fun h => by omega, fun h => by omega, fun h => by omega, fun h => by omega, fun h => by omega, fun h => by omega, fun h => by omega, fun h => by omega, fun h => by omega, fun h => by omega, fun h => by omega, fun h => by omega, fun h => by omega, fun h => by omega, fun h => by omega, fun h => by omega, fun h => by omega, fun h => by omega, fun h => by omega, fun h => by omega, fun h => by omega, fun h => by omega, fun h => by omega, fun h => by omega, fun h => by omega, fun h => by omega, fun h => by omega, fun h => by omega, fun h => by omega, fun _ => s44 ⟨⟨by omega, by omega⟩, fun h => by omega, fun h => by omega, fun h => by omega, fun h => by omega, fun h => by omega, fun _ _ _ _ _ => s32_351 ?_⟩⟩
  refine resp_bad5 (by simp [ch_m, fx_up]) (by simp [ch_m, st_m, fx_up]) (by simp [ch_m, st_m, fx_up]) (fun M' h5 hk => s16_38 ⟨5, ⟨by omega, by omega⟩, by rw [h5], ?_⟩)
  have k1 : M' 133 1 = 0 := by
    rw [hk _ _ (by decide)]
    simp [ch_m, st_m, fx_up, h2]
  refine s218 ⟨hn, fun h => by omega, fun _ => ⟨⟨hn, by omega, by omega⟩, fun _ => ?_, fun h => by omega⟩⟩
  refine s218_21 ⟨⟨⟨by omega, by omega⟩, ⟨by omega, by omega⟩⟩, fun _ => ?_, fun h => by omega⟩
  refine mreply_none ?_ (by simp [fx_up]) (fun M' => s218_58 ⟨rfl, trivial⟩)
  refine ⟨by simp [fx_up], by simp [fx_up], by simp [fx_up], fun j j0 j1 => ?_⟩
  simp [fx_up] at j1
  omega
theorem p1_answer {L : Nat} {xs : Nat → Int32} {M : fx_M} (h : fx_st M) {n : Int} (hn : fx_in32 n) : lw_call (kcs L xs) 999 205 421 [jI n] M (fun _ => True) := by
  have h1 : M 3 1 = 0 := st_get h 3 1 (by decide +kernel) (by decide +kernel)
  have h2 : M 133 5 = 0 := st_get h 133 5 (by decide +kernel) (by decide +kernel)
  have key : wc (kcs L xs) 999 421 (jR 133 :: [jI n]) M (fun v2 M2 => v2 = some (jI (-1)) ∧ True) := by
    refine s421 ⟨hn, fun _ => hn, fun _ => by rw [h2]; exact ⟨by omega, by omega⟩, fun h0 h3 => by omega, ?_, trivial⟩
    rw [h2]
    by_cases h0 : n < 0
    · rw [if_pos h0]
    · rw [if_neg h0, if_neg h0]
  refine s205 ⟨hn, fun _ => ⟨-1, ⟨by omega, by omega⟩, rfl, key⟩, fun h0 => ⟨⟨hn, by rw [h1]; exact ⟨by omega, by omega⟩⟩, fun h3 => by omega, fun _ => ⟨-1, ⟨by omega, by omega⟩, rfl, key⟩⟩⟩
theorem p1_byte {L : Nat} {xs : Nat → Int32} {M : fx_M} (h : fx_st M) {n i : Int} (hn : fx_in32 n) (hi : fx_in32 i) : lw_call (kcs L xs) 999 209 424 [jI n, jI i] M (fun _ => True) := by
  have hM : ∀ j : Int, 0 ≤ j → j < 1024 → M 126 j = M 188 j ∧ 0 ≤ M 126 j ∧ M 126 j ≤ 255 := by
    intro j j0 j1
    rw [st_arr h (a := 126) (t := 1) (n := 1024) (by decide +kernel) j0 j1, st_arr h (a := 188) (t := 0) (n := 1024) (by decide +kernel) j0 j1]
    have e1 : lx_fd xM0 126 = some [(0, 1)] := by decide +kernel
    have e2 : lx_fd xM0 188 = some [(0, 1)] := by decide +kernel
    unfold fx_i0
    rw [e1, e2]
    dsimp only
    unfold lx_fd
    split
    · decide
    · unfold lx_fd
      decide
  have hb : (0 ≤ n ∧ n < 32 ∧ 0 ≤ i ∧ i < 32) ∨ ¬ (0 ≤ n ∧ n < 32 ∧ 0 ≤ i ∧ i < 32) := by omega
  refine s209 (s210 ⟨hn, fun _ => hn, fun _ _ => hi, fun _ _ _ => hi, ⟨by (repeat' split) <;> omega, by (repeat' split) <;> omega⟩, ?_⟩)
  rcases hb with ⟨b1, b2, b3, b4⟩ | hb
  · have hv := hM (32 * n + i) (by omega) (by omega)
    rw [if_neg (by omega), if_pos b2, if_neg (by omega), if_pos b4]
    refine s209_5 ⟨⟨by omega, by omega⟩, fun _ => ⟨by omega, by omega⟩, ?_⟩
    rw [if_neg (by omega)]
    refine ⟨M 126 (32 * n + i), ⟨by omega, by omega⟩, rfl, ?_⟩
    refine s424 ⟨hn, fun _ => hn, fun _ _ => hi, fun _ _ _ => hi, fun _ _ _ _ => ⟨by omega, by omega⟩, ?_, trivial⟩
    rw [if_neg (by omega), if_pos b2, if_neg (by omega), if_pos b4, hv.1]
  · have e : (if n < 0 then (0 : Int) else (if n < 32 then ((if i < 0 then (0 : Int) else (if i < 32 then (1 : Int) else 0)) : Int) else 0)) = 0 := by
      (repeat' split) <;> omega
    rw [e]
    refine s209_5 ⟨⟨by omega, by omega⟩, fun h => absurd rfl h, ?_⟩
    rw [if_pos rfl]
    refine ⟨-1, ⟨by omega, by omega⟩, rfl, ?_⟩
    refine s424 ⟨hn, fun _ => hn, fun _ _ => hi, fun _ _ _ => hi, fun _ _ _ _ => by omega, ?_, trivial⟩
    have e2 : (if n < 0 then ((-1) : Int) else (if n < 32 then ((if i < 0 then ((-1) : Int) else (if i < 32 then (M 188 ((32 * n) + i) : Int) else (-1))) : Int) else (-1))) = -1 := by
      (repeat' split) <;> omega
    rw [e2]
theorem p1_poke {L : Nat} {xs : Nat → Int32} {M : fx_M} {n i m : Int} (hn : fx_in32 n) (hi : fx_in32 i) (hm : fx_in32 m) : lw_call (kcs L xs) 999 211 425 [jI n, jI i, jI m] M (fun _ => True) := by
  have no : ∀ M' : fx_M, ¬ (0 ≤ n ∧ n < 32 ∧ 0 ≤ i ∧ i < 32 ∧ 1 ≤ m ∧ m ≤ 255) → wc (kcs L xs) 999 425 (jR 133 :: [jI n, jI i, jI m]) M' (fun v2 M2 => v2 = some (jI 0) ∧ True) := by
    intro M' hb
    refine s425 ⟨hn, fun _ => ⟨rfl, trivial⟩, fun _ => ⟨hn, fun _ => ⟨rfl, trivial⟩, fun _ => ⟨hi, fun _ => ⟨rfl, trivial⟩, fun _ => ⟨hi, fun _ => ⟨rfl, trivial⟩, fun _ => ⟨hm, fun _ => ⟨rfl, trivial⟩, fun _ => ⟨hm, fun _ => by omega, fun _ => ⟨rfl, trivial⟩⟩⟩⟩⟩⟩⟩
  have hb : (0 ≤ n ∧ n < 32 ∧ 0 ≤ i ∧ i < 32) ∨ ¬ (0 ≤ n ∧ n < 32 ∧ 0 ≤ i ∧ i < 32) := by omega
  refine s211 (s210 ⟨hn, fun _ => hn, fun _ _ => hi, fun _ _ _ => hi, ⟨by (repeat' split) <;> omega, by (repeat' split) <;> omega⟩, ?_⟩)
  rcases hb with ⟨b1, b2, b3, b4⟩ | hb
  · rw [if_neg (by omega), if_pos b2, if_neg (by omega), if_pos b4]
    refine s211_5 ⟨⟨by omega, by omega⟩, fun h => by omega, fun _ => ⟨hm, fun h => ⟨0, ⟨by omega, by omega⟩, rfl, no _ (by omega)⟩, fun h1 => ⟨hm, fun h2 => ?_, fun h => ⟨0, ⟨by omega, by omega⟩, rfl, no _ (by omega)⟩⟩⟩⟩
    refine s212 ⟨⟨by omega, by omega⟩, ⟨⟨by omega, by omega⟩, by omega, by omega⟩, s211_36 ⟨1, ⟨by omega, by omega⟩, rfl, ?_⟩⟩
    refine s425 ⟨hn, fun h => by omega, fun _ => ⟨hn, fun h => by omega, fun _ => ⟨hi, fun h => by omega, fun _ => ⟨hi, fun h => by omega, fun _ => ⟨hm, fun h => by omega, fun _ => ⟨hm, fun _ => ⟨⟨by omega, by omega⟩, ⟨by omega, by omega⟩, rfl, trivial⟩, fun h => by omega⟩⟩⟩⟩⟩⟩
  · have e : (if n < 0 then (0 : Int) else (if n < 32 then ((if i < 0 then (0 : Int) else (if i < 32 then (1 : Int) else 0)) : Int) else 0)) = 0 := by
      (repeat' split) <;> omega
    rw [e]
    exact s211_5 ⟨⟨by omega, by omega⟩, fun _ => ⟨0, ⟨by omega, by omega⟩, rfl, no _ (by omega)⟩, fun h => absurd rfl h⟩
theorem giv_loop {L : Nat} {xs : Nat → Int32} {d : Nat} {M : fx_M} {Q : Option fx_V → fx_M → Prop} (hg : ∀ j : Int, 0 ≤ j → j < 9 → M 17 j = -1) (K : Q (some (jI 0)) M) : ∀ (k : Nat) (v : Int), v + k = 9 → 0 ≤ v → wp (kcs L xs) (d + 1) 97 4 [some (jR 11), some (jI 0), some (jI v)] [] M Q
  | 0, v, hv, h0 => s97_4 fx_puz11 ⟨⟨by omega, by omega⟩, fun _ => K, fun h => by omega⟩
  | k + 1, v, hv, h0 => by
    have e : M (11 + 6) v = -1 := hg v h0 (by omega)
    refine s97_4 fx_puz11 ⟨⟨by omega, by omega⟩, fun h => by omega, fun _ => ⟨⟨by omega, by omega⟩, by rw [e]; exact ⟨by omega, by omega⟩, ?_⟩⟩
    rw [e, if_pos (by omega), Int.add_zero]
    exact giv_loop hg K k (v + 1) (by omega) (by omega)
theorem p1_state {L : Nat} {xs : Nat → Int32} {M : fx_M} (h : fx_st M) {n : Int} (hn : fx_in32 n) : lw_call (kcs L xs) 999 207 423 [jI n] M (fun _ => True) := by
  have v114 : M 11 4 = 0 := st_get h 11 4 (by decide +kernel) (by decide +kernel)
  have v1490 : M 149 0 = 0 := st_get h 149 0 (by decide +kernel) (by decide +kernel)
  have v112 : M 11 2 = 1 := st_get h 11 2 (by decide +kernel) (by decide +kernel)
  have v113 : M 11 3 = 1 := st_get h 11 3 (by decide +kernel) (by decide +kernel)
  have v146 : M 146 0 = 1 := st_get h 146 0 (by decide +kernel) (by decide +kernel)
  have v147 : M 147 0 = 1 := st_get h 147 0 (by decide +kernel) (by decide +kernel)
  have v148 : M 148 0 = 1 := st_get h 148 0 (by decide +kernel) (by decide +kernel)
  have v530 : M 53 0 = 0 := st_get h 53 0 (by decide +kernel) (by decide +kernel)
  have v560 : M 56 0 = 0 := st_get h 56 0 (by decide +kernel) (by decide +kernel)
  have v176 : M 176 0 = 0 := st_get h 176 0 (by decide +kernel) (by decide +kernel)
  have v80 : M 133 80 = 0 := st_get h 133 80 (by decide +kernel) (by decide +kernel)
  have v96 : M 133 96 = 1 := st_get h 133 96 (by decide +kernel) (by decide +kernel)
  have v1251 : M 125 1 = 1 := st_get h 125 1 (by decide +kernel) (by decide +kernel)
  have v1260 : M 126 0 = 1 := st_get h 126 0 (by decide +kernel) (by decide +kernel)
  have v12632 : M 126 32 = 0 := st_get h 126 32 (by decide +kernel) (by decide +kernel)
  have v1880 : M 188 0 = 1 := st_get h 188 0 (by decide +kernel) (by decide +kernel)
  have v18832 : M 188 32 = 0 := st_get h 188 32 (by decide +kernel) (by decide +kernel)
  have v01 : M 0 1 = 0 := st_get h 0 1 (by decide +kernel) (by decide +kernel)
  have v1331 : M 133 1 = 0 := st_get h 133 1 (by decide +kernel) (by decide +kernel)
  have v31 : M 3 1 = 0 := st_get h 3 1 (by decide +kernel) (by decide +kernel)
  have v1335 : M 133 5 = 0 := st_get h 133 5 (by decide +kernel) (by decide +kernel)
  have v620 : M 62 0 = 0 := st_get h 62 0 (by decide +kernel) (by decide +kernel)
  have v89 : M 133 89 = 0 := st_get h 133 89 (by decide +kernel) (by decide +kernel)
  have v1540 : M 154 0 = -1 := st_get h 154 0 (by decide +kernel) (by decide +kernel)
  have v17 : ∀ j : Int, 0 ≤ j → j < 9 → M 17 j = -1 := by
    intro j j0 j1
    rw [st_arr h (a := 17) (t := 0) (n := 9) (by decide +kernel) j0 j1]
    have hf : ∀ k : Fin 9, fx_i0 17 k = -1 := by decide +kernel
    exact hf ⟨j.toNat, by omega⟩
  have u : ∀ (b : Nat) (j : Int), ¬ (b = 133 ∧ j = 0) → (fx_up M 133 0 0) b j = M b j := fun b j hne => fx_up_ne hne
  have m : ∀ r : Int, fx_in32 r → (n = 0 → r = 0) → (n = 1 → r = 0) → (n = 2 → r = 1) → (n = 3 → r = 1) → (n = 4 → r = 0) → (n = 5 → r = 0) → (n = 6 → r = 0) → (n = 7 → r = 0) → (n = 8 → r = 0) → (n = 9 → r = 0) → ((n < 0 ∨ 10 ≤ n) → r = -1) → wc (kcs L xs) 999 423 (jR 133 :: [jI n]) M (fun v2 M2 => v2 = some (jI r) ∧ True) := by
    intro r hr r0 r1 r2 r3 r4 r5 r6 r7 r8 r9 rd
    refine s423 ⟨hn, fun h => ⟨by rw [v1490, r0 h], trivial⟩, fun h => ?_, fun h => s248 (s423_76 ⟨?_, trivial⟩), fun h => ⟨by rw [v148, r3 h], trivial⟩, fun h => ⟨by rw [v80]; exact ⟨by omega, by omega⟩, by rw [v80, v176, r4 h], trivial⟩, fun h => ⟨by rw [v96]; exact ⟨by omega, by omega⟩, fun h => by omega, fun _ => s341 (s342 ?_)⟩, fun h => ⟨by rw [v1331, r6 h], trivial⟩, fun h => ⟨by rw [v1335, r7 h], trivial⟩, fun h => ⟨by rw [v80, r8 h], trivial⟩, fun h => ⟨by rw [v89, r9 h], trivial⟩, fun h => ⟨by rw [rd h], trivial⟩⟩
    · have c1 : (fx_up M 133 0 0) 146 0 * (fx_up M 133 0 0) 147 0 = 1 := by
        rw [u _ _ (by omega), u _ _ (by omega), v146, v147]
        rfl
      refine s280 (s280_4 (s248 ?_))
      rw [c1]
      refine s280_9 ⟨⟨⟨by omega, by omega⟩, ⟨by omega, by omega⟩⟩, fun h => by omega, fun _ => s271 ⟨⟨by omega, by omega⟩, ?_⟩⟩
      rw [u _ _ (by omega), v1540]
      refine s280_18 ⟨⟨by omega, by omega⟩, s280_4 (s248 ?_)⟩
      rw [c1]
      refine s280_9 ⟨⟨⟨by omega, by omega⟩, ⟨by omega, by omega⟩⟩, fun _ => s423_71 ⟨?_, trivial⟩, fun h => by omega⟩
      rw [r1 h]
      rfl
    · rw [u _ _ (by omega), u _ _ (by omega), v146, v147, r2 h]
      rfl
    · have e : (fx_up M 133 0 0) 188 0 = 1 := by rw [u _ _ (by omega), v1880]
      rw [e]
      refine ⟨⟨by omega, by omega⟩, s341_5 (s423_105 ⟨?_, trivial⟩)⟩
      have e2 : (fx_up M 133 0 0) 188 (32 * 1 + 0) = 0 := by rw [u _ _ (by omega)]; exact v18832
      rw [e2, r5 h]
  refine s207 ⟨hn, fun h => ⟨0, ⟨by omega, by omega⟩, by rw [v114], m 0 ⟨by omega, by omega⟩ (by omega) (by omega) (by omega) (by omega) (by omega) (by omega) (by omega) (by omega) (by omega) (by omega) (by omega)⟩, fun h => s97 fx_puz11 (giv_loop v17 (s207_71 ⟨0, ⟨by omega, by omega⟩, rfl, m 0 ⟨by omega, by omega⟩ (by omega) (by omega) (by omega) (by omega) (by omega) (by omega) (by omega) (by omega) (by omega) (by omega) (by omega)⟩) 9 0 (by omega) (by omega)), fun h => ⟨1, ⟨by omega, by omega⟩, by rw [v112], m 1 ⟨by omega, by omega⟩ (by omega) (by omega) (by omega) (by omega) (by omega) (by omega) (by omega) (by omega) (by omega) (by omega) (by omega)⟩, fun h => ⟨1, ⟨by omega, by omega⟩, by rw [v113], m 1 ⟨by omega, by omega⟩ (by omega) (by omega) (by omega) (by omega) (by omega) (by omega) (by omega) (by omega) (by omega) (by omega) (by omega)⟩, fun h => s208 ⟨by rw [v530]; exact ⟨by omega, by omega⟩, s207_95 ⟨0, ⟨by omega, by omega⟩, by rw [v530, v560], m 0 ⟨by omega, by omega⟩ (by omega) (by omega) (by omega) (by omega) (by omega) (by omega) (by omega) (by omega) (by omega) (by omega) (by omega)⟩⟩, fun h => ⟨by rw [v1251]; exact ⟨by omega, by omega⟩, fun h => by omega, fun _ => ?_⟩, fun h => ⟨0, ⟨by omega, by omega⟩, by rw [v01], m 0 ⟨by omega, by omega⟩ (by omega) (by omega) (by omega) (by omega) (by omega) (by omega) (by omega) (by omega) (by omega) (by omega) (by omega)⟩, fun h => ⟨0, ⟨by omega, by omega⟩, by rw [v31], m 0 ⟨by omega, by omega⟩ (by omega) (by omega) (by omega) (by omega) (by omega) (by omega) (by omega) (by omega) (by omega) (by omega) (by omega)⟩, fun h => ⟨0, ⟨by omega, by omega⟩, by rw [v530], m 0 ⟨by omega, by omega⟩ (by omega) (by omega) (by omega) (by omega) (by omega) (by omega) (by omega) (by omega) (by omega) (by omega) (by omega)⟩, fun h => ⟨0, ⟨by omega, by omega⟩, by rw [v620], m 0 ⟨by omega, by omega⟩ (by omega) (by omega) (by omega) (by omega) (by omega) (by omega) (by omega) (by omega) (by omega) (by omega) (by omega)⟩, fun h => ⟨-1, ⟨by omega, by omega⟩, rfl, m (-1) ⟨by omega, by omega⟩ (by omega) (by omega) (by omega) (by omega) (by omega) (by omega) (by omega) (by omega) (by omega) (by omega) (by omega)⟩⟩
  refine s179 (s180 ⟨by rw [v1260]; exact ⟨by omega, by omega⟩, ?_⟩)
  rw [v1260, if_neg (by omega)]
  refine s179_8 ⟨⟨by omega, by omega⟩, by rw [v12632]; exact ⟨by omega, by omega⟩, s207_113 ⟨0, ⟨by omega, by omega⟩, ?_, m 0 ⟨by omega, by omega⟩ (by omega) (by omega) (by omega) (by omega) (by omega) (by omega) (by omega) (by omega) (by omega) (by omega) (by omega)⟩⟩
  rw [v12632]
  rfl
