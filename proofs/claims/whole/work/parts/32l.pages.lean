/-! What writing a page gives; sums of a page; submitting keeps the contest in bounds. -/
theorem sb_ok {k : Nat} {C : List CI} (h : ct_ok k C) (hk : k + 1 ≤ 1000) {nm : List Int} {p tm : Int} {x : List Int} (ht : 0 ≤ tm ∧ tm < 1000) : ct_ok (k + 1) (sb C nm p tm x).2 := by
  have mono : ∀ t, ci_ok k t → ci_ok (k + 1) t := fun t ⟨a1, a2, a3, a4, a5⟩ => ⟨a1, a2, a3, a4, fun q hq => by have := a5 q hq; omega⟩
  have same : ct_ok (k + 1) C := ⟨hk, h.2.1, fun t ht => mono t (h.2.2 t ht)⟩
  have put : ∀ (i : Nat) (t : CI), ci_ok (k + 1) t → ct_ok (k + 1) (C.set i t) := fun i t hc => ⟨hk, by rw [List.length_set]; exact h.2.1, fun s hs => by
    rcases List.mem_or_eq_of_mem_set hs with e | e
    · exact mono s (h.2.2 s e)
    · rw [e]
      exact hc⟩
  unfold sb
  split
  · exact same
  · split
    · exact same
    · unfold sbI
      split
      · exact same
      · rename_i t hi
        obtain ⟨a1, a2, a3, a4, a5⟩ := h.2.2 t (List.mem_of_getElem? hi)
        split
        · exact same
        · split
          · split
            · refine put _ _ ⟨a1, a2, a3, a4, fun q hq => ?_⟩
              have := a5 q hq
              dsimp only
              split <;> omega
            · refine put _ _ ⟨a1, a2, a3, a4, fun q hq => ?_⟩
              have := a5 q hq
              dsimp only
              split <;> omega
          · exact same
theorem bCut_two {g : Int → Int} {D E : List (Int × Int)} : bCut g (D ++ E) = bCut (bCut g D) E := by
  unfold bCut
  rw [List.foldl_append]
theorem bCut_plc : ∀ {L : List Int} {b : Int} {g : Int → Int} {j : Int}, bCut g (plc b L) j = if b ≤ j ∧ j < b + L.length then L.getD (j - b).toNat 0 else g j
  | [], b, g, j => by
    rw [if_neg (by rw [List.length_nil]; omega)]
    rfl
  | v :: L, b, g, j => by
    have e : bCut g (plc b (v :: L)) = bCut (bUp g b v) (plc (b + 1) L) := rfl
    rw [e, bCut_plc (L := L), List.length_cons]
    by_cases h1 : b + 1 ≤ j ∧ j < b + 1 + (L.length : Int)
    · rw [if_pos h1, if_pos (by omega), show (j - b).toNat = (j - (b + 1)).toNat + 1 by omega, List.getD_cons_succ]
    · rw [if_neg h1]
      unfold bUp
      by_cases h2 : j = b
      · rw [if_pos h2, if_pos (by omega), show (j - b).toNat = 0 by omega, List.getD_cons_zero]
      · rw [if_neg h2, if_neg (by omega)]
/-- the root that stands, where only other places were written -/
theorem rt_same {g : Int → Int} {D : List (Int × Int)} (hv : avd g D) : bRt (bCut g D) = bRt g ∧ bCut g D 0 = g 0 ∧ bCut g D (bRt g) = g (bRt g) ∧ ∀ e : Int, 0 ≤ e → e < 15 → bCh (bCut g D) e = bCh g e ∧ bPg (bCut g D) e = bPg g e := by
  have same : ∀ j : Int, j = 0 ∨ (bRt g ≤ j ∧ j < bRt g + 32) → bCut g D j = g j := fun j hj => by
    refine bCut_ne (fun x hx e => ?_)
    have := hv x hx
    omega
  have er : bRt (bCut g D) = bRt g := by
    unfold bRt
    rw [same 0 (Or.inl rfl)]
  refine ⟨er, same 0 (Or.inl rfl), same _ (Or.inr (by omega)), fun e h0 h1 => ⟨?_, ?_⟩⟩
  · unfold bCh
    rw [er]
    exact same _ (Or.inr (by omega))
  · unfold bPg
    rw [er]
    exact same _ (Or.inr (by omega))
theorem bSum_L {g : Int → Int} {b : Int} {L : List Int} : ∀ n : Nat, n ≤ L.length → (∀ i : Nat, i < n → g (b + (i : Int)) = L.getD i 0) → bSum g b n = (L.take n).sum
  | 0, _, _ => by
    rw [bSum, List.take_zero, List.sum_nil]
  | n + 1, hn, h => by
    have hl : n < L.length := by omega
    rw [bSum, bSum_L n (by omega) (fun i hi => h i (by omega)), h n (by omega), List.take_succ_eq_append_getElem hl, List.sum_append, List.sum_cons, List.sum_nil, Int.add_zero, List.getD_eq_getElem?_getD, List.getElem?_eq_getElem hl]
    rfl
section BPG
variable {kc : List va_E} {d : Nat} {Q : Option fx_V → fx_M → Prop} {g : Int → Int} {M : fx_M}
theorem sp_sumOfP (hg : mbk M g) (hb : bk_b g) {q : Int} (hq : 0 ≤ q ∧ q ≤ 2) (K : Q (some (jI (bSum g (32 * q) 31 % 251))) M) : wc kc (d + 1) 362 [jR 133, jI q] M Q := by
  have s : ∀ (u i : Nat), i + u = 31 → wp kc (d + 1) 362 4 [some (jR 133), some (jI q), some (jI (bSum g (32 * q) i)), some (jI i)] [] M Q := by
    intro u
    induction u with
    | zero =>
      intro i hi
      have hi : i = 31 := by omega
      subst hi
      have hs := bSum_b hb (b := 32 * q) (by omega) 31 (by omega)
      exact s362_4 ⟨⟨by omega, by omega⟩, fun _ => ⟨⟨by omega, by omega⟩, K⟩, fun h => by omega⟩
    | succ u ih =>
      intro i hi
      have nx := ih (i + 1) (by omega)
      rw [bSum, show ((i + 1 : Nat) : Int) = (i : Int) + 1 by omega] at nx
      refine s362_4 ?_
      rw [hg (32 * q + i) (by omega) (by omega)]
      exact ⟨⟨by omega, by omega⟩, fun h => by omega, fun _ => ⟨⟨by omega, by omega⟩, nx⟩⟩
  exact s362 (s 31 0 (by omega))
end BPG
