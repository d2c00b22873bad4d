/-! THE REFERENCE'S READING: bytes, digits, numbers, by the same readers. -/
def md (M : fx_M) (p v : Int) : fx_M := fx_up (fx_up M 133 7 p) 133 8 v
theorem md_7 (M : fx_M) (p v : Int) : (md M p v) 133 7 = p := by
  unfold md
  rw [fx_up_nk (by decide), fx_up_self]
theorem md_8 (M : fx_M) (p v : Int) : (md M p v) 133 8 = v := fx_up_self _ _ _ _
theorem md_ne {M : fx_M} {b : Nat} {j p v : Int} (h : ¬ (b = 133 ∧ (j = 7 ∨ j = 8))) : (md M p v) b j = M b j := by
  unfold md
  rw [fx_up_ne (by omega), fx_up_ne (by omega)]
theorem md_ext {M N : fx_M} {p v : Int} (h7 : N 133 7 = p) (h8 : N 133 8 = v) (h : ∀ b j, ¬ (b = 133 ∧ (j = 7 ∨ j = 8)) → N b j = M b j) : N = md M p v := by
  funext b j
  by_cases c : b = 133 ∧ (j = 7 ∨ j = 8)
  · obtain ⟨rfl, rfl | rfl⟩ := c
    · rw [md_7, h7]
    · rw [md_8, h8]
  · rw [md_ne c, h b j c]
theorem md_id (M : fx_M) : md M (M 133 7) (M 133 8) = M := (md_ext rfl rfl (fun _ _ _ => rfl)).symm
theorem md_p {M : fx_M} {p : Int} : fx_up M 133 7 p = md M p (M 133 8) := md_ext (fx_up_self _ _ _ _) (fx_up_nk (by decide)) (fun b j h => fx_up_ne (by omega))
theorem md_v {M : fx_M} {v : Int} : fx_up M 133 8 v = md M (M 133 7) v := md_ext (fx_up_nk (by decide)) (fx_up_self _ _ _ _) (fun b j h => fx_up_ne (by omega))
theorem md_md (M : fx_M) (p v p' v' : Int) : md (md M p v) p' v' = md M p' v' := md_ext (md_7 _ _ _) (md_8 _ _ _) (fun b j h => by rw [md_ne h, md_ne h])
theorem up_md {M : fx_M} {b : Nat} {k x p v : Int} (h : ¬ (b = 133 ∧ (k = 7 ∨ k = 8))) : fx_up (md M p v) b k x = md (fx_up M b k x) p v := md_ext (by rw [fx_up_ne (by omega), md_7]) (by rw [fx_up_ne (by omega), md_8]) (fun c j hc => by
  by_cases e : c = b ∧ j = k
  · obtain ⟨rfl, rfl⟩ := e
    rw [fx_up_self, fx_up_self]
  · rw [fx_up_ne e, fx_up_ne e, md_ne hc])
theorem ms_md {M : fx_M} {p v : Int} (h : ms_at M) (hp : 0 ≤ p ∧ p ≤ M 133 3) : ms_at (md M p v) := by
  obtain ⟨h1, h2, h3, h4⟩ := h
  refine ⟨by rw [md_7]; omega, by rw [md_7, md_ne (by omega)]; omega, by rw [md_ne (by omega)]; exact h3, fun j j0 j1 => ?_⟩
  rw [md_ne (by omega)] at j1 ⊢
  exact h4 j j0 j1
theorem md_g {M : fx_M} {p v : Int} : (md M p v) 135 = M 135 ∧ (md M p v) 133 3 = M 133 3 := ⟨by
  funext j
  exact md_ne (by omega), md_ne (by omega)⟩
theorem ms_up {M : fx_M} {b : Nat} {k x : Int} (h : ms_at M) (hb : b ≠ 135) (hk : ¬ (b = 133 ∧ (k = 3 ∨ k = 7))) : ms_at (fx_up M b k x) := by
  obtain ⟨h1, h2, h3, h4⟩ := h
  refine ⟨by rw [fx_up_ne (by omega)]; exact h1, by rw [fx_up_ne (by omega), fx_up_ne (by omega)]; exact h2, by rw [fx_up_ne (by omega)]; exact h3, fun j j0 j1 => ?_⟩
  rw [fx_up_ne (by omega)] at j1
  rw [fx_up_na (Ne.symm hb)]
  exact h4 j j0 j1
theorem ms_p {M : fx_M} (h : ms_at M) : 0 ≤ M 133 7 ∧ M 133 7 ≤ M 133 3 ∧ M 133 3 ≤ 6100 := ⟨h.1, h.2.1, h.2.2.1⟩
section MR2
variable {kc : List va_E} {d : Nat} {M : fx_M} {Q : Option fx_V → fx_M → Prop}
theorem sp_isByteR {c : Int} (h : ms_at M) (hc : 0 ≤ c ∧ c ≤ 65535) (K : Q (some (jI (1 - (rT (M 135) (M 133 3) c (M 133 7) 0).2))) (md M (rT (M 135) (M 133 3) c (M 133 7) 0).1 (M 133 8))) : wc kc (d + 2) 227 [jR 133, jI c] M Q := by
  unfold rT at K
  rw [if_pos rfl] at K
  refine sp_isByte h hc (fun h1 h2 => ?_) (fun hn => ?_)
  · rw [if_pos h1, if_pos h2] at K
    rw [md_p]
    exact K
  · by_cases h1 : M 133 7 < M 133 3
    · rw [if_pos h1, if_neg (by omega)] at K
      dsimp only at K
      rw [md_id] at K
      exact K
    · rw [if_neg h1] at K
      dsimp only at K
      rw [md_id] at K
      exact K
theorem sp_scanDigit (h : ms_at M) (K : Q (some (jI (1 - (rN (M 135) (M 133 3) 1 (M 133 7) 0).2.2))) (md M (rN (M 135) (M 133 3) 1 (M 133 7) 0).2.1 (if (rN (M 135) (M 133 3) 1 (M 133 7) 0).2.2 = 0 then (rN (M 135) (M 133 3) 1 (M 133 7) 0).1 else M 133 8))) : wc kc (d + 2) 229 [jR 133] M Q := by
  have h2 := h
  obtain ⟨h1, h2', h3, h4⟩ := h2
  have hh := here_in h
  unfold rN at K
  have bad : ¬ ((0 : Int) = 0 ∧ M 133 7 < M 133 3 ∧ isD (M 135 (M 133 7))) → Q (some (jI 0)) M := fun hn => by
    rw [if_neg hn] at K
    dsimp only at K
    rw [if_neg (show ¬ (1 : Int) = 0 by decide), md_id] at K
    exact K
  refine s229 (sp_here h (s229_4 ⟨hh, fun hx => bad ?_, fun hx => sp_here h (s229_13 ⟨hh, fun hy => sp_here h (s229_25 ?_), fun hy => bad ?_⟩)⟩))
  · intro hc
    rw [if_pos hc.2.1] at hx
    have := hc.2.2
    omega
  · by_cases hp : M 133 7 < M 133 3
    · rw [if_pos hp] at hx hy ⊢
      rw [if_pos ⟨rfl, hp, hx, hy⟩] at K
      have e : fx_up (fx_up M 133 8 (M 135 (M 133 7) - 48)) 133 7 (M 133 7 + 1) = md M (M 133 7 + 1) (M 135 (M 133 7) - 48) := by
        rw [md_v, md_p, md_8, md_md]
      rw [e]
      dsimp only at K
      rw [if_pos rfl] at K
      exact K
    · rw [if_neg hp] at hx
      omega
  · intro hc
    rw [if_pos hc.2.1] at hy
    have := hc.2.2
    omega
theorem mnum_loop {m : Int} (hm : m ≤ 100) (v0 : Int) : ∀ (k : Nat) (M : fx_M) (v i : Int), ms_at M → i + k = m → 0 ≤ i → 0 ≤ v → v < ((10 ^ (9 - k) : Nat) : Int) → k ≤ 8 → Q (some (jI 1)) (md M (rN1 (M 135) (M 133 3) k v (M 133 7)).2 (rN1 (M 135) (M 133 3) k v (M 133 7)).1) → wp kc (d + 2) 233 16 [some (jR 133), some (jI m), some (jI v), some (jI i)] [] M Q
  | 0, M, v, i, h, hi, h0, hv, hv2, hk, K => by
    have K : Q (some (jI 1)) (md M (M 133 7) v) := K
    rw [← md_v] at K
    exact s233_16 ⟨⟨⟨by omega, by omega⟩, ⟨by omega, by omega⟩⟩, fun _ => K, fun h => by omega⟩
  | k + 1, M, v, i, h, hi, h0, hv, hv2, hk, K => by
    have hb := ms_p h
    have hh := here_in h
    have h10 : ((10 ^ (9 - (k + 1)) : Nat) : Int) ≤ 100000000 := by
      have := Nat.pow_le_pow_right (n := 10) (by decide) (show 9 - (k + 1) ≤ 8 by omega)
      omega
    unfold rN1 at K
    have stop : ¬ (0 < v ∧ M 133 7 < M 133 3 ∧ isD (M 135 (M 133 7))) → Q (some (jI 1)) (fx_up M 133 8 v) := fun hn => by
      rw [if_neg hn] at K
      rw [md_v]
      exact K
    refine s233_16 ⟨⟨⟨by omega, by omega⟩, ⟨by omega, by omega⟩⟩, fun h => by omega, fun _ => ⟨⟨by omega, by omega⟩, fun h => stop (by omega), fun hv0 => sp_here h (s233_29 ⟨hh, fun hx => stop ?_, fun hx => sp_here h (s233_38 ⟨hh, fun hy => stop ?_, fun hy => sp_here h (s233_51 ?_)⟩)⟩)⟩⟩
    · intro hc
      rw [if_pos hc.2.1] at hx
      have := hc.2.2
      omega
    · intro hc
      rw [if_pos hc.2.1] at hy
      have := hc.2.2
      omega
    · by_cases hp : M 133 7 < M 133 3
      · rw [if_pos hp] at hx hy ⊢
        rw [if_pos ⟨hv0, hp, hx, hy⟩] at K
        have hS' := ms_md (p := M 133 7 + 1) (v := M 133 8) h (by omega)
        rw [md_p]
        have ev : 10 * v + M 135 (M 133 7) - 48 = v * 10 + M 135 (M 133 7) - 48 := by omega
        rw [ev]
        refine mnum_loop hm v0 k _ _ (i + 1) hS' (by omega) (by omega) (by omega) ?_ (by omega) ?_
        · have h9 : (10 ^ (9 - k) : Nat) = 10 ^ (9 - (k + 1)) * 10 := by
            rw [show 9 - k = (9 - (k + 1)) + 1 by omega, Nat.pow_succ]
          rw [h9]
          omega
        · rw [md_g.1, md_g.2, md_7, md_md]
          exact K
      · rw [if_neg hp] at hx
        omega
theorem sp_scanDigits {m : Nat} (h : ms_at M) (hm : 1 ≤ m ∧ m ≤ 8) (K : Q (some (jI (1 - (rN (M 135) (M 133 3) m (M 133 7) 0).2.2))) (md M (rN (M 135) (M 133 3) m (M 133 7) 0).2.1 (if (rN (M 135) (M 133 3) m (M 133 7) 0).2.2 = 0 then (rN (M 135) (M 133 3) m (M 133 7) 0).1 else M 133 8))) : wc kc (d + 3) 233 [jR 133, jI m] M Q := by
  have hb := ms_p h
  refine s233 (sp_scanDigit h ?_)
  unfold rN at K ⊢
  by_cases hc : (0 : Int) = 0 ∧ M 133 7 < M 133 3 ∧ isD (M 135 (M 133 7))
  · rw [if_pos hc] at K ⊢
    have hd := hc.2.2
    dsimp only at K ⊢
    rw [if_pos rfl] at K ⊢
    have e1 : (rN1 (M 135) (M 133 3) (1 - 1) (M 135 (M 133 7) - 48) (M 133 7 + 1)) = (M 135 (M 133 7) - 48, M 133 7 + 1) := rfl
    rw [e1]
    have hS' := ms_md (p := M 133 7 + 1) (v := M 135 (M 133 7) - 48) h (by omega)
    refine s233_4 ⟨⟨by omega, by omega⟩, fun _ => ?_, fun h => absurd h (by decide)⟩
    rw [md_8]
    refine mnum_loop (by omega) 0 (m - 1) _ _ 1 hS' (by omega) (by omega) (by omega) ?_ (by omega) ?_
    · have := Nat.pow_le_pow_right (n := 10) (by decide) (show 1 ≤ 9 - (m - 1) by omega)
      omega
    · rw [md_g.1, md_g.2, md_7, md_md]
      exact K
  · rw [if_neg hc] at K ⊢
    dsimp only at K ⊢
    exact s233_4 ⟨⟨by omega, by omega⟩, fun h => absurd rfl h, fun _ => K⟩
theorem sp_scanNumber (h : ms_at M) (K : Q (some (jI (1 - (rN (M 135) (M 133 3) 3 (M 133 7) 0).2.2))) (md M (rN (M 135) (M 133 3) 3 (M 133 7) 0).2.1 (if (rN (M 135) (M 133 3) 3 (M 133 7) 0).2.2 = 0 then (rN (M 135) (M 133 3) 3 (M 133 7) 0).1 else M 133 8))) : wc kc (d + 4) 232 [jR 133] M Q := by
  have hb := ms_p h
  have hr := rN_b (g := M 135) (e := M 133 3) (m := 3) (p := M 133 7) (w := 0) (by omega) (by omega)
  exact s232 (sp_scanDigits (m := 3) h (by omega) (s232_5 ⟨by omega, K⟩))
theorem rN_w {g : Int → Int} {e : Int} {m : Nat} {p : Int} : rN g e m p 1 = (0, p, 1) := by
  unfold rN
  rw [if_neg (by omega)]
theorem rT_w {g : Int → Int} {e c p : Int} : rT g e c p 1 = (p, 1) := by
  unfold rT
  rw [if_neg (by decide)]
/-- isByte(' ') and a number of at most m digits -/
theorem sp_scanBlankNumber (h : ms_at M) (K : Q (some (jI (1 - (rBN (M 135) (M 133 3) 3 (M 133 7) 0).2.2))) (md M (rBN (M 135) (M 133 3) 3 (M 133 7) 0).2.1 (if (rBN (M 135) (M 133 3) 3 (M 133 7) 0).2.2 = 0 then (rBN (M 135) (M 133 3) 3 (M 133 7) 0).1 else M 133 8))) : wc kc (d + 5) 236 [jR 133] M Q := by
  have hb := ms_p h
  have ht := rT_b (g := M 135) (e := M 133 3) (c := 32) (p := M 133 7) (w := 0) (by omega)
  refine s236 (sp_isByteR h (by omega) ?_)
  unfold rBN at K
  have hw : (rT (M 135) (M 133 3) 32 (M 133 7) 0).2 = 0 ∨ (rT (M 135) (M 133 3) 32 (M 133 7) 0).2 = 1 := by omega
  generalize rT (M 135) (M 133 3) 32 (M 133 7) 0 = t at K hw ht
  rcases hw with hw | hw
  · rw [hw] at K ⊢
    have hS' := ms_md (p := t.1) (v := M 133 8) h (by omega)
    refine s236_6 ⟨⟨by omega, by omega⟩, fun h => absurd h (by decide), fun _ => sp_scanNumber hS' ?_⟩
    rw [md_g.1, md_g.2, md_7, md_8, md_md]
    have hr := rN_b (g := M 135) (e := M 133 3) (m := 3) (p := t.1) (w := 0) (by omega) (by omega)
    refine s236_13 ⟨⟨by omega, by omega⟩, ⟨by (repeat' split) <;> omega, by (repeat' split) <;> omega⟩, ?_⟩
    have e : (if (1 - (rN (M 135) (M 133 3) 3 t.1 0).2.2) = 0 then (0 : Int) else 1) = 1 - (rN (M 135) (M 133 3) 3 t.1 0).2.2 := by
      split <;> omega
    rw [e]
    exact K
  · rw [hw, rN_w] at K
    dsimp only at K
    rw [if_neg (show ¬ (1 : Int) = 0 by decide)] at K
    rw [hw]
    exact s236_6 ⟨⟨by omega, by omega⟩, fun _ => K, fun h => absurd rfl h⟩
end MR2
