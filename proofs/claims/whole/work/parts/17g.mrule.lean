/-! THE REFERENCE'S READING: rules, each. -/
def mcl (M : fx_M) (c : Int) : List Int → fx_M
  | [] => M
  | v :: l => mcl (if c < 4 then fx_up (fx_up M 137 c v) 133 12 (c + 1) else fx_up M 133 12 (c + 1)) (c + 1) l
theorem mcl_md {p x : Int} : ∀ (l : List Int) (c : Int) (M : fx_M), mcl (md M p x) c l = md (mcl M c l) p x
  | [], _, _ => rfl
  | v :: l, c, M => by
    unfold mcl
    rw [← mcl_md l]
    congr 1
    split
    · rw [up_md (by omega), up_md (by omega)]
    · rw [up_md (by omega)]
theorem mcl_fr : ∀ (l : List Int) (c : Int) (M : fx_M) (b : Nat) (j : Int), ¬ (b = 133 ∧ j = 12) → b ≠ 137 → (mcl M c l) b j = M b j
  | [], _, _, _, _, _, _ => rfl
  | v :: l, c, M, b, j, h1, h2 => by
    unfold mcl
    rw [mcl_fr l _ _ b j h1 h2]
    split
    · rw [fx_up_ne h1, fx_up_na h2]
    · rw [fx_up_ne h1]
theorem mcl_len : ∀ (l : List Int) (c : Int) (M : fx_M), M 133 12 = c → (mcl M c l) 133 12 = c + l.length
  | [], c, M, h => by
    show M 133 12 = c + (([] : List Int).length : Int)
    rw [h]
    simp
  | v :: l, c, M, h => by
    unfold mcl
    rw [mcl_len l (c + 1) _ (by split <;> exact fx_up_self _ _ _ _)]
    simp only [List.length_cons]
    omega
theorem mcl_lt : ∀ (l : List Int) (c : Int) (M : fx_M) (j : Int), j < c → (mcl M c l) 137 j = M 137 j
  | [], _, _, _, _ => rfl
  | v :: l, c, M, j, h => by
    unfold mcl
    rw [mcl_lt l (c + 1) _ j (by omega)]
    split
    · rw [fx_up_na (by decide), fx_up_nk (by omega)]
    · rw [fx_up_na (by decide)]
theorem mcl_at : ∀ (l : List Int) (c : Int) (M : fx_M) (i : Nat) (v : Int), l[i]? = some v → c + i < 4 → 0 ≤ c → (mcl M c l) 137 (c + i) = v
  | [], _, _, _, _, h, _, _ => by simp at h
  | x :: l, c, M, 0, v, h, h4, h0 => by
    have : x = v := by simpa using h
    subst this
    unfold mcl
    rw [show c + ((0 : Nat) : Int) = c by omega, mcl_lt l (c + 1) _ c (by omega), if_pos (by omega), fx_up_na (by decide), fx_up_self]
  | x :: l, c, M, i + 1, v, h, h4, h0 => by
    unfold mcl
    rw [show c + ((i + 1 : Nat) : Int) = c + 1 + i by omega]
    exact mcl_at l (c + 1) _ i v (by simpa using h) (by omega) (by omega)
theorem rR_w {g : Int → Int} {e : Int} {f : Nat} {b : Bool} {p : Int} : rR g e f b p 1 = ([], p, 1) := by
  cases f with
  | zero => rfl
  | succ f =>
    unfold rR
    rw [if_neg (by omega)]
section MU
variable {kc : List va_E} {d : Nat} {M : fx_M} {Q : Option fx_V → fx_M → Prop}
theorem mrule_loop : ∀ (f : Nat) (M : fx_M) (c : Int) (b : Bool) (m : Int), ms_at M → M 133 12 = c → 0 ≤ c → c ≤ M 133 7 → (m = 0 ∨ m = 1) → (m = 1 ↔ (b = true ∨ (M 133 7 < M 133 3 ∧ M 135 (M 133 7) = 32))) → M 133 3 - M 133 7 < f → ((rR (M 135) (M 133 3) f b (M 133 7) 0).2.2 = 0 → ∀ x, Q (some (jI 1)) (md (mcl M c (rR (M 135) (M 133 3) f b (M 133 7) 0).1) (rR (M 135) (M 133 3) f b (M 133 7) 0).2.1 x)) → ((rR (M 135) (M 133 3) f b (M 133 7) 0).2.2 = 1 → ∀ M', mfr M M' → M' 133 7 = (rR (M 135) (M 133 3) f b (M 133 7) 0).2.1 → Q (some (jI 0)) M') → wp kc (d + 5) 230 16 [some (jR 133), some (jI m)] [] M Q := by
  intro f
  induction f with
  | zero =>
    intro M c b m h h12 h0 hc hm hmb hf K1 K0
    have := ms_p h
    omega
  | succ f ih =>
    intro M c b m h h12 h0 hc hm hmb hf K1 K0
    have hb := ms_p h
    by_cases hz : m = 0
    · have hn : ¬ ((0 : Int) = 0 ∧ (b = true ∨ (M 133 7 < M 133 3 ∧ M 135 (M 133 7) = 32))) := fun hx => by
        have := hmb.mpr hx.2
        omega
      unfold rR at K1
      rw [if_neg hn] at K1
      have K1 := K1 rfl (M 133 8)
      have K1 : Q (some (jI 1)) (md M (M 133 7) (M 133 8)) := K1
      rw [md_id] at K1
      exact s230_16 ⟨⟨by omega, by omega⟩, fun _ => K1, fun h => absurd hz h⟩
    · have h1 : m = 1 := by omega
      have hx : (0 : Int) = 0 ∧ (b = true ∨ (M 133 7 < M 133 3 ∧ M 135 (M 133 7) = 32)) := ⟨rfl, hmb.mp h1⟩
      unfold rR at K1 K0
      rw [if_pos hx] at K1 K0
      have hq := rBN_b (g := M 135) (e := M 133 3) (m := 3) (p := M 133 7) (w := 0) (by omega) (by omega)
      have hq2 := rBN_2 (g := M 135) (e := M 133 3) (m := 3) (p := M 133 7) (w := 0) (by omega) (by omega)
      have fail : (rBN (M 135) (M 133 3) 3 (M 133 7) 0).2.2 = 1 → ∀ M', mfr M M' → M' 133 7 = (rBN (M 135) (M 133 3) 3 (M 133 7) 0).2.1 → Q (some (jI 0)) M' := fun hw M' m1 m2 => by
        rw [hw, rR_w] at K0
        exact K0 rfl M' m1 m2
      refine s230_16 ⟨⟨by omega, by omega⟩, fun h => absurd h hz, fun _ => ?_⟩
      refine sp_bd3 (S := fun v M1 => wp kc (d + 5) 230 33 [some (jR 133), none] (v.toList ++ []) M1 Q) h (fun hw M1 e => s230_26 ⟨i01.1, fun _ => fail hw _ (by rw [e]; exact mfr_md (mfr_rf M)) (by rw [e, md_7]), fun h => absurd rfl h⟩) (fun M1 hz => s230_26 ⟨i01.2, fun h => by omega, fun _ => hz⟩) (fun hw M1 e => s230_33 ⟨i01.1, fun h => absurd rfl h, fun _ => fail hw _ (by rw [e]; exact mfr_md (mfr_rf M)) (by rw [e, md_7])⟩) (fun hw => ?_)
      rw [hw] at K1 K0
      have hq2 := hq2 hw
      clear fail
      have e12 : (md M (rBN (M 135) (M 133 3) 3 (M 133 7) 0).2.1 (rBN (M 135) (M 133 3) 3 (M 133 7) 0).1) 133 12 = c := by rw [md_ne (by omega), h12]
      refine s230_33 ⟨i01.2, fun _ => ?_, fun h => by omega⟩
      rw [e12, md_8]
      generalize rBN (M 135) (M 133 3) 3 (M 133 7) 0 = q at K1 K0 hq hq2 hw e12
      have step : ∀ N : fx_M, ms_at N → N = md (if c < 4 then fx_up (fx_up M 137 c q.1) 133 12 (c + 1) else fx_up M 133 12 (c + 1)) q.2.1 q.1 → wc kc (d + 4) 228 [jR 133] N (fun v M1 => wp kc (d + 5) 230 73 [some (jR 133), none] (v.toList ++ []) M1 Q) := by
        intro N hN eN
        have n7 : N 133 7 = q.2.1 := by rw [eN, md_7]
        have n3 : N 133 3 = M 133 3 := by
          rw [eN, md_ne (by omega)]
          split
          · rw [fx_up_nk (by decide), fx_up_na (by decide)]
          · rw [fx_up_nk (by decide)]
        have n5 : N 135 = M 135 := by
          funext j
          rw [eN, md_ne (by omega)]
          split
          · rw [fx_up_na (by decide), fx_up_na (by decide)]
          · rw [fx_up_na (by decide)]
        have n12 : N 133 12 = c + 1 := by
          rw [eN, md_ne (by omega)]
          split <;> exact fx_up_self _ _ _ _
        have nf : mfr M N := by
          rw [eN]
          refine mfr_md ?_
          intro b' j' a1 a2
          split
          · rw [fx_up_ne (by omega), fx_up_na a2]
          · rw [fx_up_ne (by omega)]
        have hh := here_in hN
        refine sp_here hN (s230_73 ⟨hh, ?_⟩)
        refine ih N (c + 1) false _ hN n12 (by omega) (by omega) (by split <;> omega) ?_ (by omega) ?_ ?_
        · by_cases hp : N 133 7 < N 133 3
          · rw [if_pos hp]
            by_cases h32 : N 135 (N 133 7) = 32
            · rw [if_pos h32]
              simp [hp, h32]
            · rw [if_neg h32]
              simp [h32]
          · rw [if_neg hp, if_neg (by decide)]
            simp [hp]
        · rw [n3, n5, n7]
          intro w0 x
          have := K1 w0 x
          have e2 : md (mcl N (c + 1) (rR (M 135) (M 133 3) f false q.2.1 0).1) (rR (M 135) (M 133 3) f false q.2.1 0).2.1 x = md (mcl M c (q.1 :: (rR (M 135) (M 133 3) f false q.2.1 0).1)) (rR (M 135) (M 133 3) f false q.2.1 0).2.1 x := by
            rw [eN, mcl_md, md_md]
            rfl
          rw [e2]
          exact this
        · rw [n3, n5, n7]
          intro w1 M' a1 a2
          exact K0 w1 M' (mfr_tr nf a1) a2
      refine ⟨⟨by omega, by omega⟩, fun h4 => ?_, fun h4 => ⟨⟨by omega, by omega⟩, ?_⟩⟩
      · refine step _ (ms_up (ms_md h (by omega)) (by decide) (by omega)) ?_
        rw [if_neg (by omega), up_md (by omega)]
      · refine step _ (ms_up (ms_up (ms_md h (by omega)) (by decide) (by omega)) (by decide) (by omega)) ?_
        rw [if_pos h4, up_md (by omega), up_md (by omega)]
/-- a rule's text: kind and number by rK, cells by rR -/
theorem sp_scanRule (h : ms_at M) (K1 : (rR (M 135) (M 133 3) ((M 133 3 - (rK (M 135) (M 133 3) bsK (M 133 7) 0).2.2.1).toNat + 1) true (rK (M 135) (M 133 3) bsK (M 133 7) 0).2.2.1 (rK (M 135) (M 133 3) bsK (M 133 7) 0).2.2.2).2.2 = 0 → 0 ≤ (rK (M 135) (M 133 3) bsK (M 133 7) 0).1 → (rK (M 135) (M 133 3) bsK (M 133 7) 0).1 < 8 → ∀ M', mfr M M' → M' 133 7 = (rR (M 135) (M 133 3) ((M 133 3 - (rK (M 135) (M 133 3) bsK (M 133 7) 0).2.2.1).toNat + 1) true (rK (M 135) (M 133 3) bsK (M 133 7) 0).2.2.1 (rK (M 135) (M 133 3) bsK (M 133 7) 0).2.2.2).2.1 → M' 133 10 = piK.getD (rK (M 135) (M 133 3) bsK (M 133 7) 0).1.toNat 0 → M' 133 11 = (rK (M 135) (M 133 3) bsK (M 133 7) 0).2.1 → M' 133 12 = (rR (M 135) (M 133 3) ((M 133 3 - (rK (M 135) (M 133 3) bsK (M 133 7) 0).2.2.1).toNat + 1) true (rK (M 135) (M 133 3) bsK (M 133 7) 0).2.2.1 (rK (M 135) (M 133 3) bsK (M 133 7) 0).2.2.2).1.length → (∀ (i : Nat) (v : Int), (rR (M 135) (M 133 3) ((M 133 3 - (rK (M 135) (M 133 3) bsK (M 133 7) 0).2.2.1).toNat + 1) true (rK (M 135) (M 133 3) bsK (M 133 7) 0).2.2.1 (rK (M 135) (M 133 3) bsK (M 133 7) 0).2.2.2).1[i]? = some v → i < 4 → M' 137 i = v) → Q (some (jI 1)) M') (K0 : (rR (M 135) (M 133 3) ((M 133 3 - (rK (M 135) (M 133 3) bsK (M 133 7) 0).2.2.1).toNat + 1) true (rK (M 135) (M 133 3) bsK (M 133 7) 0).2.2.1 (rK (M 135) (M 133 3) bsK (M 133 7) 0).2.2.2).2.2 = 1 → ∀ M', mfr M M' → M' 133 7 = (rR (M 135) (M 133 3) ((M 133 3 - (rK (M 135) (M 133 3) bsK (M 133 7) 0).2.2.1).toNat + 1) true (rK (M 135) (M 133 3) bsK (M 133 7) 0).2.2.1 (rK (M 135) (M 133 3) bsK (M 133 7) 0).2.2.2).2.1 → Q (some (jI 0)) M') : wc kc (d + 6) 230 [jR 133] M Q := by
  have hb := ms_p h
  have hk := rK_b (g := M 135) (e := M 133 3) (bs := bsK) (p := M 133 7) (w := 0) (by omega)
  have nfr : ∀ N : fx_M, (∀ b j, ¬ (b = 133 ∧ (j = 7 ∨ j = 8 ∨ j = 10 ∨ j = 11)) → N b j = M b j) → mfr M N := fun N hN b j a1 a2 => hN b j (by omega)
  refine s230 (sp_scanKind h (fun w0 k0 k8 N hN n7 n10 n11 => ?_) (fun w1 N hN n7 => ?_))
  · rw [w0] at K1 K0
    generalize rK (M 135) (M 133 3) bsK (M 133 7) 0 = q at K1 K0 hk w0 k0 k8 n7 n10 n11
    refine s230_4 ⟨i01.2, fun _ => ?_, fun h => absurd h (by decide)⟩
    have p3 : N 133 3 = M 133 3 := hN 133 3 (by omega)
    have p5 : N 135 = M 135 := by
      funext j
      exact hN 135 j (by omega)
    have hNm : ms_at N := by
      obtain ⟨h1, h2, h3, h4⟩ := h
      refine ⟨by omega, by omega, by omega, fun j j0 j1 => ?_⟩
      rw [p5]
      exact h4 j j0 (by omega)
    have hPm : ms_at (fx_up N 133 12 0) := ms_up hNm (by decide) (by omega)
    have P7 : (fx_up N 133 12 0) 133 7 = q.2.2.1 := by rw [fx_up_nk (by decide), n7]
    have P3 : (fx_up N 133 12 0) 133 3 = M 133 3 := by rw [fx_up_nk (by decide), p3]
    have P5 : (fx_up N 133 12 0) 135 = M 135 := by
      funext j
      rw [fx_up_na (by decide), p5]
    refine mrule_loop ((M 133 3 - q.2.2.1).toNat + 1) _ 0 true 1 hPm (fx_up_self _ _ _ _) (by omega) (by omega) (Or.inr rfl) (by simp) (by omega) ?_ ?_
    · rw [P3, P5, P7]
      intro hw x
      refine K1 hw k0 k8 _ (mfr_md (fun b j a1 a2 => ?_)) (md_7 _ _ _) ?_ ?_ ?_ (fun i v hi h4 => ?_)
      · rw [mcl_fr _ _ _ b j (by omega) a2, fx_up_ne (by omega), nfr N hN b j a1 a2]
      · rw [md_ne (by omega), mcl_fr _ _ _ _ _ (by omega) (by decide), fx_up_nk (by decide), n10]
      · rw [md_ne (by omega), mcl_fr _ _ _ _ _ (by omega) (by decide), fx_up_nk (by decide), n11]
      · rw [md_ne (by omega), mcl_len _ _ _ (fx_up_self _ _ _ _)]
        omega
      · rw [md_ne (by omega)]
        have := mcl_at _ 0 (fx_up N 133 12 0) i v hi (by omega) (by omega)
        rwa [show (0 : Int) + (i : Int) = i by omega] at this
    · rw [P3, P5, P7]
      intro hw M' a1 a2
      exact K0 hw M' (fun b j c1 c2 => by rw [a1 b j c1 c2, fx_up_ne (by omega), nfr N hN b j c1 c2]) a2
  · rw [w1, rR_w] at K0
    exact s230_4 ⟨i01.1, fun h => absurd rfl h, fun _ => K0 rfl _ (nfr N hN) n7⟩
end MU
