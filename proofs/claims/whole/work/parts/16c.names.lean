/-! SCAN: kind, name, digits, cells of a rule. -/
theorem up_rd {M : fx_M} {s b : Nat} {k v p w : Int} (h : ¬ (b = s ∧ (k = 1 ∨ k = 3))) : fx_up (rd M s p w) b k v = rd (fx_up M b k v) s p w := by
  funext c j
  by_cases h1 : c = s ∧ (j = 1 ∨ j = 3)
  · have h2 : ¬ (c = b ∧ j = k) := by
      intro h3
      apply h
      omega
    rw [fx_up_ne h2]
    obtain ⟨rfl, rfl | rfl⟩ := h1
    · rw [rd_1, rd_1]
    · rw [rd_3, rd_3]
  · rw [rd_ne h1]
    by_cases h2 : c = b ∧ j = k
    · obtain ⟨rfl, rfl⟩ := h2
      rw [fx_up_self, fx_up_self]
    · rw [fx_up_ne h2, fx_up_ne h2, rd_ne h1]
theorem up_up (M : fx_M) (b : Nat) (k v v' : Int) : fx_up (fx_up M b k v) b k v' = fx_up M b k v' := by
  funext c j
  by_cases h : c = b ∧ j = k
  · obtain ⟨rfl, rfl⟩ := h
    rw [fx_up_self, fx_up_self]
  · rw [fx_up_ne h, fx_up_ne h, fx_up_ne h]
theorem rT_0 {g : Int → Int} {e c p w : Int} (h : (rT g e c p w).2 = 0) : (rT g e c p w).1 = p + 1 ∧ w = 0 ∧ p < e ∧ g p = c := by
  unfold rT at *
  by_cases h1 : w = 0
  · by_cases h2 : p < e
    · by_cases h3 : g p = c
      · rw [if_pos h1, if_pos h2, if_pos h3]
        exact ⟨rfl, h1, h2, h3⟩
      · rw [if_pos h1, if_pos h2, if_neg h3] at h
        exact absurd h (show ¬ (1 : Int) = 0 by decide)
    · rw [if_pos h1, if_neg h2] at h
      exact absurd h (show ¬ (1 : Int) = 0 by decide)
  · rw [if_neg h1] at h
    exact absurd h (show ¬ (1 : Int) = 0 by decide)
theorem rBN_2 {g : Int → Int} {e : Int} {m : Nat} {p w : Int} (hm : 1 ≤ m) (h : p ≤ e) (h0 : (rBN g e m p w).2.2 = 0) : p + 2 ≤ (rBN g e m p w).2.1 := by
  unfold rBN rN at *
  split at h0
  · next hc =>
    rw [if_pos hc]
    obtain ⟨c1, c2, c3, c4⟩ := hc
    have hb := rN1_b (g := g) (e := e) (m - 1) (g (rT g e 32 p w).1 - 48) ((rT g e 32 p w).1 + 1) (by omega) (by omega)
    have := (rT_0 c1).1
    dsimp only
    omega
  · exact absurd h0 (show ¬ (1 : Int) = 0 by decide)
/-- kind and its number: kind, number, place, wrong -/
def hasN (k : Int) : Bool := k == 6 || k == 2 || k == 1 || k == 5
def rK (g : Int → Int) (e : Int) (bs : List Int32) (p w : Int) : Int × Int × Int × Int :=
  if hasN (rC g e bs (rT g e 32 p w).1 (rT g e 32 p w).2).1 = true then ((rC g e bs (rT g e 32 p w).1 (rT g e 32 p w).2).1, rBN g e 3 (rC g e bs (rT g e 32 p w).1 (rT g e 32 p w).2).2.1 (rC g e bs (rT g e 32 p w).1 (rT g e 32 p w).2).2.2)
  else ((rC g e bs (rT g e 32 p w).1 (rT g e 32 p w).2).1, 0, (rC g e bs (rT g e 32 p w).1 (rT g e 32 p w).2).2.1, (rC g e bs (rT g e 32 p w).1 (rT g e 32 p w).2).2.2)
theorem rK_b {g : Int → Int} {e : Int} {bs : List Int32} {p w : Int} (h : p ≤ e) : -1 ≤ (rK g e bs p w).1 ∧ (rK g e bs p w).1 ≤ bs.length + 1 ∧ 0 ≤ (rK g e bs p w).2.1 ∧ (rK g e bs p w).2.1 < 1000 ∧ p ≤ (rK g e bs p w).2.2.1 ∧ (rK g e bs p w).2.2.1 ≤ e ∧ 0 ≤ (rK g e bs p w).2.2.2 ∧ (rK g e bs p w).2.2.2 ≤ 1 := by
  have h1 := rT_b (g := g) (c := 32) (w := w) h
  have h2 := rC_b (g := g) (e := e) (bs := bs) (p := (rT g e 32 p w).1) (w := (rT g e 32 p w).2) (by omega)
  have h3 := rBN_b (g := g) (e := e) (m := 3) (p := (rC g e bs (rT g e 32 p w).1 (rT g e 32 p w).2).2.1) (w := (rC g e bs (rT g e 32 p w).1 (rT g e 32 p w).2).2.2) (by omega) (by omega)
  have e3 : ((10 ^ 3 : Nat) : Int) = 1000 := rfl
  unfold rK
  split <;> dsimp only <;> omega
section SC4
variable {L : Nat} {xs : Nat → Int32} {d s a n : Nat} {M : fx_M} {Q : Option fx_V → fx_M → Prop}
theorem sp_kind {bs : List Int32} (hw : fx_str (kcs L xs) 1000005 bs) (Hs : fx_scn s) (hS : sc_at M s a n) (K : Q none (rd (fx_up (fx_up M s 11 (rK (M a) (M s 2) bs (M s 1) (M s 3)).1) s 12 (rK (M a) (M s 2) bs (M s 1) (M s 3)).2.1) s (rK (M a) (M s 2) bs (M s 1) (M s 3)).2.2.1 (rK (M a) (M s 2) bs (M s 1) (M s 3)).2.2.2)) : wc (kcs L xs) (d + 5) 45 [jR s] M Q := by
  have hp := sc_p hS
  have hb := rT_b (g := M a) (c := 32) (w := M s 3) hp.1
  refine s45 Hs (sp_take Hs hS (by omega) (s45_6 Hs ?_))
  have hS' := sc_at_rd (p := (rT (M a) (M s 2) 32 (M s 1) (M s 3)).1) (w := (rT (M a) (M s 2) 32 (M s 1) (M s 3)).2) Hs hS (by omega) (by omega)
  have hg := rd_g (p := (rT (M a) (M s 2) 32 (M s 1) (M s 3)).1) (v := (rT (M a) (M s 2) 32 (M s 1) (M s 3)).2) Hs hS
  refine sp_chooseR Hs hw hS' ?_
  rw [hg.1, hg.2, rd_1, rd_3, rd_rd]
  unfold rK at K
  have hc := rC_b (g := M a) (e := M s 2) (bs := bs) (p := (rT (M a) (M s 2) 32 (M s 1) (M s 3)).1) (w := (rT (M a) (M s 2) 32 (M s 1) (M s 3)).2) (by omega)
  have hbs : bs.length < 1000 := by
    obtain ⟨-, c, -, -, -, h, -⟩ := hw
    exact h
  generalize rC (M a) (M s 2) bs (rT (M a) (M s 2) 32 (M s 1) (M s 3)).1 (rT (M a) (M s 2) 32 (M s 1) (M s 3)).2 = q at K hc
  refine s45_13 Hs ?_
  have hin : fx_in32 q.1 := ⟨by omega, by omega⟩
  have e : fx_up (fx_up (rd M s q.2.1 q.2.2) s 11 q.1) s 12 0 = rd (fx_up (fx_up M s 11 q.1) s 12 0) s q.2.1 q.2.2 := by
    rw [up_rd (by omega), up_rd (by omega)]
  rw [e]
  have hS2 : sc_at (fx_up (fx_up M s 11 q.1) s 12 0) s a n := by
    have ha := scn_arr Hs hS.2.1
    exact sc_at_up (sc_at_up hS (by omega) (by omega)) (by omega) (by omega)
  have k2 : (fx_up (fx_up M s 11 q.1) s 12 0) s 2 = M s 2 := by rw [fx_up_nk (by decide), fx_up_nk (by decide)]
  have ka : (fx_up (fx_up M s 11 q.1) s 12 0) a = M a := by
    have ha := scn_arr Hs hS.2.1
    funext j
    rw [fx_up_na ha, fx_up_na ha]
  have eif : ∀ x : Int, (if x = 6 then (1 : Int) else (if x = 2 then (1 : Int) else (if x = 1 then (1 : Int) else (if x = 5 then (1 : Int) else 0)))) = if hasN x = true then 1 else 0 := by
    intro x
    unfold hasN
    by_cases h6 : x = 6
    · simp [h6]
    · by_cases h2 : x = 2
      · simp [h2]
      · by_cases h1 : x = 1
        · simp [h1]
        · by_cases h5 : x = 5
          · simp [h5]
          · simp [h6, h2, h1, h5]
  refine s46 ⟨hin, fun _ => hin, fun _ _ => hin, fun _ _ _ => hin, ⟨by (repeat' split) <;> omega, by (repeat' split) <;> omega⟩, ?_⟩
  rw [eif]
  by_cases hh : hasN q.1 = true
  · rw [if_pos hh] at K ⊢
    refine s45_28 Hs ⟨⟨by omega, by omega⟩, fun h => by omega, fun _ => ?_⟩
    have hS3 := sc_at_rd (p := q.2.1) (w := q.2.2) Hs hS2 (by omega) (by omega)
    have hg3 := rd_g (p := q.2.1) (v := q.2.2) Hs hS2
    have hb3 := rT_b (g := M a) (e := M s 2) (c := 32) (p := q.2.1) (w := q.2.2) (by omega)
    refine sp_take Hs hS3 (by omega) (s45_37 Hs ?_)
    rw [hg3.1, hg3.2, rd_1, rd_3, rd_rd, ka, k2]
    have hS4 := sc_at_rd (p := (rT (M a) (M s 2) 32 q.2.1 q.2.2).1) (w := (rT (M a) (M s 2) 32 q.2.1 q.2.2).2) Hs hS2 (by omega) (by omega)
    have hg4 := rd_g (p := (rT (M a) (M s 2) 32 q.2.1 q.2.2).1) (v := (rT (M a) (M s 2) 32 q.2.1 q.2.2).2) Hs hS2
    refine sp_num (m := 3) Hs hS4 (by omega) ?_
    rw [hg4.1, hg4.2, rd_1, rd_3, rd_rd, ka, k2]
    refine s45_43 Hs ?_
    rw [up_rd (by omega), up_up]
    exact K
  · rw [if_neg hh] at K ⊢
    exact s45_28 Hs ⟨⟨by omega, by omega⟩, fun _ => K, fun h => absurd rfl h⟩
/-- name: its length, wrong -/
def rNm (g : Int → Int) (e p w : Int) : Int × Int := if w = 0 then ((rL g e 8 p : Nat), if rL g e 8 p = 0 then 1 else 0) else (0, 1)
theorem rNm_b {g : Int → Int} {e p w : Int} (h : p ≤ e) : 0 ≤ (rNm g e p w).1 ∧ (rNm g e p w).1 ≤ 8 ∧ p + (rNm g e p w).1 ≤ e ∧ 0 ≤ (rNm g e p w).2 ∧ (rNm g e p w).2 ≤ 1 := by
  have := rL_b g e 8 p h
  unfold rNm
  split
  · dsimp only
    refine ⟨by omega, by omega, by omega, ?_, ?_⟩ <;> split <;> omega
  · dsimp only
    omega
theorem name_loop (Hs : fx_scn s) : ∀ (k : Nat) (M : fx_M) (l : Int), sc_at M s a n → M s 3 = 0 → M s 7 = l → l + k = 8 → 0 ≤ l → Q none (rd (fx_up M s 7 (l + rL (M a) (M s 2) k (M s 1))) s (M s 1 + rL (M a) (M s 2) k (M s 1)) (if l + rL (M a) (M s 2) k (M s 1) = 0 then 1 else 0)) → wp (kcs L xs) (d + 2) 40 13 [some (jR s)] [] M Q := by
  intro k
  induction k with
  | zero =>
    intro M l hS h3 h7 hl h0 K
    obtain ⟨a0, a1, a2, a3, a4, a5, a6, a7, a8⟩ := hS
    have K : Q none (rd (fx_up M s 7 (l + ((0 : Nat) : Int))) s (M s 1 + ((0 : Nat) : Int)) (if l + ((0 : Nat) : Int) = 0 then 1 else 0)) := K
    have e1 : l + ((0 : Nat) : Int) = l := by omega
    have e2 : M s 1 + ((0 : Nat) : Int) = M s 1 := by omega
    rw [e1, e2, ← h7] at K
    have e3 : fx_up M s 7 (M s 7) = M := by
      funext b j
      by_cases h : b = s ∧ j = 7
      · obtain ⟨rfl, rfl⟩ := h
        rw [fx_up_self]
      · rw [fx_up_ne h]
    rw [e3] at K
    refine s40_13 (h1n := n) (h2n := n) (h3n := n) (h4n := n) Hs ⟨⟨by omega, by omega⟩, fun h => absurd h3 h, fun _ => ⟨⟨by omega, by omega⟩, fun _ => ⟨⟨by omega, by omega⟩, fun _ => ⟨by omega, by omega⟩, ⟨by (repeat' split) <;> omega, by (repeat' split) <;> omega⟩, ?_⟩, fun h => by omega⟩⟩
    rw [if_pos h3, rd_w]
    exact K
  | succ k ih =>
    intro M l hS h3 h7 hl h0 K
    have hS2 := hS
    obtain ⟨a0, a1, a2, a3, a4, a5, a6, a7, a8⟩ := hS
    have ea : (M s 0).toNat = a := by
      rw [a0]
      rfl
    have ha := scn_arr Hs a1
    have e3 : fx_up M s 7 (M s 7) = M := by
      funext b j
      by_cases h : b = s ∧ j = 7
      · obtain ⟨rfl, rfl⟩ := h
        rw [fx_up_self]
      · rw [fx_up_ne h]
    have stop : ¬ (M s 1 < M s 2 ∧ 97 ≤ M a (M s 1) ∧ M a (M s 1) ≤ 122) → Q none (fx_up M s 3 (if M s 3 = 0 then ((if M s 7 = 0 then (1 : Int) else 0) : Int) else 1)) := by
      intro hn
      unfold rL at K
      rw [if_neg hn] at K
      have e1 : l + ((0 : Nat) : Int) = l := by omega
      have e2 : M s 1 + ((0 : Nat) : Int) = M s 1 := by omega
      rw [e1, e2, ← h7, e3] at K
      rw [if_pos h3, rd_w]
      exact K
    refine s40_13 (h1n := n) (h2n := n) (h3n := n) (h4n := n) Hs ⟨⟨by omega, by omega⟩, fun h => absurd h3 h, fun _ => ⟨⟨by omega, by omega⟩, fun h => by omega, fun _ => ⟨⟨⟨by omega, by omega⟩, ⟨by omega, by omega⟩⟩, fun h => ⟨⟨by omega, by omega⟩, fun _ => ⟨by omega, by omega⟩, ⟨by (repeat' split) <;> omega, by (repeat' split) <;> omega⟩, stop (by omega)⟩, fun hp => ?_⟩⟩⟩
    rw [ea]
    have hg := a8 (M s 1) a3 (by omega)
    refine ⟨⟨⟨a1, by omega⟩, a3, by omega⟩, s41 ⟨⟨by omega, by omega⟩, fun _ => ⟨by omega, by omega⟩, ⟨by (repeat' split) <;> omega, by (repeat' split) <;> omega⟩, ?_⟩⟩
    by_cases hc : 97 ≤ M a (M s 1) ∧ M a (M s 1) ≤ 122
    · rw [if_neg (by omega), if_neg (by omega)]
      unfold rL at K
      rw [if_pos ⟨hp, hc⟩] at K
      refine s40_52 Hs ⟨⟨by omega, by omega⟩, fun h => by omega, fun _ => ?_⟩
      have eM : fx_up (fx_up M s 1 (M s 1 + 1)) s 7 (M s 7 + 1) = rd (fx_up M s 7 (l + 1)) s (M s 1 + 1) 0 := by
        rw [rd_p, h3, h7, up_rd (by omega)]
      rw [eM]
      have hS7 : sc_at (fx_up M s 7 (l + 1)) s a n := sc_at_up hS2 (by omega) (by omega)
      have k2 : (fx_up M s 7 (l + 1)) s 2 = M s 2 := fx_up_nk (by decide)
      have hS' := sc_at_rd (p := M s 1 + 1) (w := 0) Hs hS7 (by omega) (by omega)
      have hg' := rd_g (p := M s 1 + 1) (v := 0) Hs hS7
      have ka : (fx_up M s 7 (l + 1)) a = M a := by
        funext j
        exact fx_up_na ha
      refine ih _ (l + 1) hS' (rd_3 _ _ _ _) (by rw [rd_ne (by omega), fx_up_self]) (by omega) (by omega) ?_
      rw [hg'.1, hg'.2, rd_1, up_rd (by omega), up_up, rd_rd, ka, k2]
      have e4 : l + 1 + (rL (M a) (M s 2) k (M s 1 + 1) : Int) = l + ((rL (M a) (M s 2) k (M s 1 + 1) + 1 : Nat) : Int) := by omega
      have e5 : M s 1 + 1 + (rL (M a) (M s 2) k (M s 1 + 1) : Int) = M s 1 + ((rL (M a) (M s 2) k (M s 1 + 1) + 1 : Nat) : Int) := by omega
      rw [e4, e5]
      exact K
    · have hz : (if M a (M s 1) < 97 then (0 : Int) else (if 122 < M a (M s 1) then (0 : Int) else 1)) = 0 := by
        (repeat' split) <;> omega
      rw [hz]
      exact s40_52 Hs ⟨⟨by omega, by omega⟩, fun _ => ⟨⟨by omega, by omega⟩, fun _ => ⟨by omega, by omega⟩, ⟨by (repeat' split) <;> omega, by (repeat' split) <;> omega⟩, stop (by omega)⟩, fun h => absurd rfl h⟩
theorem sp_name (Hs : fx_scn s) (hS : sc_at M s a n) (K : Q none (rd (fx_up (fx_up M s 6 (M s 1)) s 7 (rNm (M a) (M s 2) (M s 1) (M s 3)).1) s (M s 1 + (rNm (M a) (M s 2) (M s 1) (M s 3)).1) (rNm (M a) (M s 2) (M s 1) (M s 3)).2)) : wc (kcs L xs) (d + 2) 40 [jR s] M Q := by
  have hS2 := hS
  obtain ⟨a0, a1, a2, a3, a4, a5, a6, a7, a8⟩ := hS
  have ha := scn_arr Hs a1
  have hSx : sc_at (fx_up (fx_up M s 6 (M s 1)) s 7 0) s a n := sc_at_up (sc_at_up hS2 (by omega) (by omega)) (by omega) (by omega)
  have k1 : (fx_up (fx_up M s 6 (M s 1)) s 7 0) s 1 = M s 1 := by rw [fx_up_nk (by decide), fx_up_nk (by decide)]
  have k2 : (fx_up (fx_up M s 6 (M s 1)) s 7 0) s 2 = M s 2 := by rw [fx_up_nk (by decide), fx_up_nk (by decide)]
  have k3 : (fx_up (fx_up M s 6 (M s 1)) s 7 0) s 3 = M s 3 := by rw [fx_up_nk (by decide), fx_up_nk (by decide)]
  have k7 : (fx_up (fx_up M s 6 (M s 1)) s 7 0) s 7 = 0 := fx_up_self _ _ _ _
  have ka : (fx_up (fx_up M s 6 (M s 1)) s 7 0) a = M a := by
    funext j
    rw [fx_up_na ha, fx_up_na ha]
  refine s40 Hs ?_
  unfold rNm at K
  by_cases h3 : M s 3 = 0
  · rw [if_pos h3] at K
    refine name_loop Hs 8 _ 0 hSx (by rw [k3, h3]) k7 (by omega) (by omega) ?_
    rw [ka, k1, k2, up_up]
    have e1 : (0 : Int) + (rL (M a) (M s 2) 8 (M s 1) : Int) = (rL (M a) (M s 2) 8 (M s 1) : Int) := by omega
    have e2 : (if (rL (M a) (M s 2) 8 (M s 1) : Int) = 0 then (1 : Int) else 0) = if rL (M a) (M s 2) 8 (M s 1) = 0 then 1 else 0 := by
      by_cases h : rL (M a) (M s 2) 8 (M s 1) = 0
      · rw [if_pos h, if_pos (by omega)]
      · rw [if_neg h, if_neg (by omega)]
    rw [e1, e2]
    exact K
  · rw [if_neg h3] at K
    have e0 : M s 1 + 0 = M s 1 := by omega
    dsimp only at K
    rw [e0] at K
    refine s40_13 (h1n := n) (h2n := n) (h3n := n) (h4n := n) Hs ?_
    rw [k3, k7]
    refine ⟨⟨by omega, by omega⟩, fun _ => ⟨⟨by omega, by omega⟩, fun h => absurd h h3, ⟨by (repeat' split) <;> omega, by (repeat' split) <;> omega⟩, ?_⟩, fun h => absurd h h3⟩
    rw [if_neg h3, rd_w, k1]
    exact K
end SC4
