/-! The class reads a whole book: all entries, the check. -/
section BOL
variable {L : Nat} {xs : Nat → Int32} {d : Nat} {Q : Option fx_V → fx_M → Prop}
def fbL (M M' : fx_M) : Prop := (∀ b j, b ≠ 7 → b ≠ 10 → ¬ (20 ≤ b ∧ b ≤ 28) → ¬ (b = 9 ∧ j = 1) → M' b j = M b j) ∧ M' 7 2 = M 7 2 ∧ M' 7 0 = M 7 0 ∧ M' 7 15 = M 7 15
theorem fbL_tr {M N P : fx_M} (h1 : fbL M N) (h2 : fbL N P) : fbL M P := ⟨fun b j a1 a2 a3 a4 => by rw [h2.1 b j a1 a2 a3 a4, h1.1 b j a1 a2 a3 a4], by rw [h2.2.1, h1.2.1], by rw [h2.2.2.1, h1.2.2.1], by rw [h2.2.2.2, h1.2.2.2]⟩
theorem bk_loop {v2 : Int} : ∀ (f : Nat) (M : fx_M) (i rf k : Int) (Z : PZ), tx_st M 7 20 2 5606 rf Z → M 9 1 = k → 0 ≤ k ∧ k ≤ i → (M 7 3 = 0 → i ≤ M 7 1) → i ≤ M 7 2 + 1 → M 7 2 - M 7 1 < f → (∀ M', tx_st M' 7 20 2 5606 (rBk (M 2) (M 7 2) f (M 7 1) (M 7 3) rf Z).2.2.2.1 (rBk (M 2) (M 7 2) f (M 7 1) (M 7 3) rf Z).2.2.2.2 → M' 7 1 = (rBk (M 2) (M 7 2) f (M 7 1) (M 7 3) rf Z).2.1 → M' 7 3 = (rBk (M 2) (M 7 2) f (M 7 1) (M 7 3) rf Z).2.2.1 → M' 9 1 = k + (rBk (M 2) (M 7 2) f (M 7 1) (M 7 3) rf Z).1.length → fbL M M' → wc (kcs L xs) (d + 6) 62 [jR ((M' 7 0).toNat), jI v2, jI (M' 7 1)] M' (fun v M1 => wp (kcs L xs) (d + 7) 61 158 [some (jR 7), none, none, none, none] (v.toList ++ [jI 2, jR (7 + 2)]) M1 Q)) → wp (kcs L xs) (d + 7) 61 41 [some (jR 7), some (jR 20), some (jI v2), some (jI 1), some (jI i)] [] M Q := by
  intro f
  induction f with
  | zero =>
    intro M i rf k Z h h9 hk hi hie hf K
    have := sc_p h.1
    omega
  | succ f ih =>
    intro M i rf k Z h h9 hk hi hie hf K
    have hS := h.1
    have hp := sc_p hS
    have hb5 : M 7 2 ≤ 5606 := hS.2.2.2.2.2.1
    have h3b : 0 ≤ M 7 3 ∧ M 7 3 ≤ 1 := ⟨hS.2.2.2.2.2.2.1, hS.2.2.2.2.2.2.2.1⟩
    by_cases hw : M 7 3 = 0
    case neg =>
      rw [rBk_w hw] at K
      have stop := K M h rfl rfl (by rw [h9]; exact (Int.add_zero k).symm) ⟨fun _ _ _ _ _ _ => rfl, rfl, rfl, rfl⟩
      exact s61_41 fx_scn7 puz20 ⟨⟨⟨by omega, by omega⟩, ⟨by omega, by omega⟩⟩, fun _ => stop, fun _ => ⟨⟨by omega, by omega⟩, fun h => by omega, fun _ => ⟨⟨by omega, by omega⟩, fun _ => stop, fun h => absurd h hw⟩⟩⟩
    case pos =>
      have hip := hi hw
      have ht := rT_b (g := M 2) (e := M 7 2) (c := 47) (p := M 7 1) (w := 0) hp.1
      refine s61_41 fx_scn7 puz20 ⟨⟨⟨by omega, by omega⟩, ⟨by omega, by omega⟩⟩, fun h => by omega, fun _ => ⟨⟨by omega, by omega⟩, fun h => by omega, fun _ => ⟨⟨by omega, by omega⟩, fun h => absurd hw h, fun _ => sp_take (d := d + 5) fx_scn7 hS (by omega) (s61_67 (h1n := 0) (h2n := 0) (h3n := 5606) fx_scn7 puz20 ?_)⟩⟩⟩
      rw [hw] at K ⊢
      -- the end, where no entry follows
      have fin : ∀ p1 w1 : Int, rT (M 2) (M 7 2) 47 (M 7 1) 0 = (p1, w1) → ¬ (w1 = 0 ∧ p1 < M 7 2 ∧ isL (M 2 p1)) → wp (kcs L xs) (d + 7) 61 41 [some (jR 7), some (jR 20), some (jI v2), some (jI 0), some (jI (i + 1))] [] (rd M 7 p1 w1) Q := fun p1 w1 h1 h2 => by
        rw [rBk_no h1 h2] at K
        rw [h1] at ht
        have hT : tx_st (rd M 7 p1 w1) 7 20 2 5606 rf Z := tx_read fx_scn7 puz20 (by decide) h (fun b j c1 c2 => rd_ne (by omega)) (by rw [rd_1]; omega) (by rw [rd_3]; omega)
        have stop := K _ hT (rd_1 _ _ _ _) (rd_3 _ _ _ _) (by rw [rd_ne (by omega), h9]; exact (Int.add_zero k).symm) ⟨fun b j c1 c2 c3 c4 => rd_ne (by omega), rd_ne (by omega), rd_ne (by omega), rd_ne (by omega)⟩
        refine s61_41 fx_scn7 puz20 ?_
        rw [rd_ne (show ¬ ((7 : Nat) = 7 ∧ ((2 : Int) = 1 ∨ (2 : Int) = 3)) by omega)]
        exact ⟨⟨⟨by omega, by omega⟩, ⟨by omega, by omega⟩⟩, fun _ => stop, fun _ => ⟨⟨by omega, by omega⟩, fun _ => stop, fun h => absurd rfl h⟩⟩
      rcases rT_i (g := M 2) (e := M 7 2) (c := 47) (p := M 7 1) with ⟨e1, l1, g1⟩ | ⟨e1, no⟩
      · rw [e1]
        dsimp only
        rw [rd_3, rd_1, rd_ne (show ¬ ((7 : Nat) = 7 ∧ ((2 : Int) = 1 ∨ (2 : Int) = 3)) by omega), rd_ne (show ¬ ((7 : Nat) = 7 ∧ ((0 : Int) = 1 ∨ (0 : Int) = 3)) by omega), hS.1, Int.toNat_natCast]
        refine ⟨⟨by omega, by omega⟩, fun h => absurd rfl h, fun _ => ⟨⟨⟨by omega, by omega⟩, ⟨by omega, by omega⟩⟩, fun hge => fin _ _ e1 (fun x => by have := x.2.1; omega), fun hlt => ⟨⟨⟨fa2, by omega⟩, ⟨by omega, by omega⟩⟩, ?_⟩⟩⟩
        have cb := hS.2.2.2.2.2.2.2.2 (M 7 1 + 1) (by omega) (by omega)
        rw [rd_ne (show ¬ ((2 : Nat) = 7 ∧ (M 7 1 + 1 = 1 ∨ M 7 1 + 1 = 3)) by omega)]
        refine s41 (d := d + 5) ⟨⟨by omega, by omega⟩, fun _ => ⟨by omega, by omega⟩, ?_, s61_97 fx_scn7 puz20 ?_⟩
        · split
          · decide
          · split <;> decide
        have e01 : (if (1 : Int) = 0 then (0 : Int) else 1) = 1 := rfl
        have e00 : (if (0 : Int) = 0 then (0 : Int) else 1) = 0 := rfl
        by_cases hl : isL (M 2 (M 7 1 + 1))
        · have hl' := hl
          rw [if_neg (show ¬ M 2 (M 7 1 + 1) < 97 by omega), if_neg (show ¬ 122 < M 2 (M 7 1 + 1) by omega), e01]
          obtain ⟨n, n1, n2, n3, n4⟩ := rNm_i hlt hl
          obtain ⟨q, w, hq⟩ : ∃ q w, rT (M 2) (M 7 2) 32 (M 7 1 + 1 + n) 0 = (q, w) := ⟨_, _, rfl⟩
          rw [rBk_go e1 ⟨hlt, hl⟩ n1 hq] at K
          have hT : tx_st (rd M 7 (M 7 1 + 1) 0) 7 20 2 5606 rf Z := tx_read fx_scn7 puz20 (by decide) h (fun b j c1 c2 => rd_ne (by omega)) (by rw [rd_1]; omega) (by rw [rd_3]; omega)
          have g2 : (rd M 7 (M 7 1 + 1) 0) 2 = M 2 := by
            funext j
            exact rd_ne (by omega)
          have g7 : (rd M 7 (M 7 1 + 1) 0) 7 2 = M 7 2 := rd_ne (by omega)
          have fr : fbk M (rd M 7 (M 7 1 + 1) 0) := ⟨fun b j c1 c2 c3 => rd_ne (by omega), g7, rd_ne (by omega), rd_ne (by omega)⟩
          refine ⟨⟨by omega, by omega⟩, by decide, fun h => absurd h (by decide), fun _ => ?_⟩
          refine bk_entry (d := d) (n := n) (q := q) (w := w) hT (rd_1 _ _ _ _) (rd_3 _ _ _ _) (by rw [g2, g7]; exact n1) (by rw [g2, g7]; exact hq) ⟨n2, n3, by rw [g7]; exact n4⟩ (fun N hN => s61_114 fx_scn7 puz20 hN) (fun N hN => s61_120 fx_scn7 puz20 hN) (fun M' m1 m2 m3 m4 m6 m7 => s61_125 fx_scn7 puz20 ?_)
          rw [g2, g7] at m1 m2 m3
          have fr2 := fbk_tr fr m4
          have tb := rT_b (g := M 2) (e := M 7 2) (c := 32) (p := M 7 1 + 1 + n) (w := 0) n4
          rw [hq] at tb
          have xb := rText_b (g := M 2) (e := M 7 2) (p := q) (w := w) (rf := rf) (Z := Z) tb.2.1
          have m91 : M' 9 1 = k := by rw [fr2.1 9 1 (by decide) (by decide) (by omega), h9]
          rw [m91]
          have u7 : ∀ j, (fx_up M' 9 1 (k + 1)) 7 j = M' 7 j := fun j => fx_up_na (by decide)
          have u2 : (fx_up M' 9 1 (k + 1)) 2 = M 2 := by
            funext j
            rw [fx_up_na (by decide), fr2.1 2 j (by decide) (by decide) (by omega)]
          have u72 : (fx_up M' 9 1 (k + 1)) 7 2 = M 7 2 := by rw [u7, fr2.2.1]
          have u71 : (fx_up M' 9 1 (k + 1)) 7 1 = (rText (M 2) (M 7 2) q w rf Z).1 := by rw [u7, m2]
          have u73 : (fx_up M' 9 1 (k + 1)) 7 3 = (rText (M 2) (M 7 2) q w rf Z).2.1 := by rw [u7, m3]
          have frL : fbL M (fx_up M' 9 1 (k + 1)) := ⟨fun b j c1 c2 c3 c4 => by rw [fx_up_ne c4, fr2.1 b j c1 c2 c3], u72, by rw [u7, fr2.2.2.1], by rw [u7, fr2.2.2.2]⟩
          refine ih _ (i + 1) _ (k + 1) _ (tx_9 m1) (fx_up_self ..) ⟨by omega, by omega⟩ (fun _ => by rw [u71]; omega) (by rw [u72]; omega) (by rw [u71, u72]; omega) ?_
          rw [u2, u72, u71, u73]
          intro P a1 a2 a3 a4 a5
          refine K P a1 a2 a3 ?_ (fbL_tr frL a5)
          rw [a4, List.length_cons]
          omega
        · have hn : (if M 2 (M 7 1 + 1) < 97 then (0 : Int) else if 122 < M 2 (M 7 1 + 1) then 0 else 1) = 0 := by
            by_cases c1 : M 2 (M 7 1 + 1) < 97
            · rw [if_pos c1]
            · rw [if_neg c1, if_pos (by omega)]
          rw [hn, e00]
          exact ⟨⟨by omega, by omega⟩, by decide, fun _ => fin _ _ e1 (fun x => hl x.2.2), fun h => absurd rfl h⟩
      · rw [e1]
        dsimp only
        rw [rd_3]
        exact ⟨⟨by omega, by omega⟩, fun _ => fin _ _ e1 (fun x => by have := x.1; omega), fun h => by omega⟩
/-- a book: says, entries, place and wrong behind them, refusal, puzzle -/
def rBo (g : Int → Int) (e p w : Int) (Z : PZ) : List BE × Int × Int × Int × PZ := rBk g e ((e - (rBN g e 3 (rC g e bsB p w).2.1 (rC g e bsB p w).2.2).2.1).toNat + 1) (rBN g e 3 (rC g e bsB p w).2.1 (rC g e bsB p w).2.2).2.1 (rBN g e 3 (rC g e bsB p w).2.1 (rC g e bsB p w).2.2).2.2 0 Z
def rBs (g : Int → Int) (e p w : Int) : Int × Int × Int := rBN g e 3 (rC g e bsB p w).2.1 (rC g e bsB p w).2.2
theorem rBk_b {g : Int → Int} {e : Int} : ∀ {f : Nat} {p w rf : Int} {Z : PZ}, p ≤ e → 0 ≤ w → w ≤ 1 → p ≤ (rBk g e f p w rf Z).2.1 ∧ (rBk g e f p w rf Z).2.1 ≤ e ∧ 0 ≤ (rBk g e f p w rf Z).2.2.1 ∧ (rBk g e f p w rf Z).2.2.1 ≤ 1
  | 0, p, w, _, _, h, h0, h1 => ⟨Int.le_refl p, h, h0, h1⟩
  | f + 1, p, w, rf, Z, h, h0, h1 => by
    by_cases hw : w = 0
    · subst hw
      have ht := rT_b (g := g) (e := e) (c := 47) (p := p) (w := 0) h
      rcases rT_i (g := g) (e := e) (c := 47) (p := p) with ⟨e1, l1, g1⟩ | ⟨e1, no⟩
      · rw [e1] at ht
        by_cases hl : p + 1 < e ∧ isL (g (p + 1))
        · obtain ⟨n, n1, n2, n3, n4⟩ := rNm_i hl.1 hl.2
          obtain ⟨q, w, hq⟩ : ∃ q w, rT g e 32 (p + 1 + n) 0 = (q, w) := ⟨_, _, rfl⟩
          have tb := rT_b (g := g) (e := e) (c := 32) (p := p + 1 + n) (w := 0) n4
          rw [hq] at tb
          have xb := rText_b (g := g) (e := e) (p := q) (w := w) (rf := rf) (Z := Z) tb.2.1
          rw [rBk_go e1 hl n1 hq]
          have ih := rBk_b (g := g) (e := e) (f := f) (p := (rText g e q w rf Z).1) (w := (rText g e q w rf Z).2.1) (rf := (rText g e q w rf Z).2.2.1) (Z := (rText g e q w rf Z).2.2.2) xb.2.1 xb.2.2.1 xb.2.2.2
          dsimp only
          omega
        · rw [rBk_no e1 (fun x => hl x.2)]
          dsimp only
          omega
      · rw [rBk_no e1 (fun x => by have := x.1; omega)]
        dsimp only
        omega
    · rw [rBk_w hw]
      exact ⟨Int.le_refl p, h, h0, h1⟩
theorem sp_book {M : fx_M} {Z : PZ} (h : tx_st M 7 20 2 5606 0 Z) (K : ∀ M', tx_st M' 7 20 2 5606 (rBo (M 2) (M 7 2) (M 7 1) (M 7 3) Z).2.2.2.1 (rBo (M 2) (M 7 2) (M 7 1) (M 7 3) Z).2.2.2.2 → M' 7 1 = (rN (M 2) (M 7 2) 6 (rBo (M 2) (M 7 2) (M 7 1) (M 7 3) Z).2.1 (rBo (M 2) (M 7 2) (M 7 1) (M 7 3) Z).2.2.1).2.1 → M' 7 3 = (rN (M 2) (M 7 2) 6 (rBo (M 2) (M 7 2) (M 7 1) (M 7 3) Z).2.1 (rBo (M 2) (M 7 2) (M 7 1) (M 7 3) Z).2.2.1).2.2 → M' 9 0 = (rBs (M 2) (M 7 2) (M 7 1) (M 7 3)).1 → M' 9 1 = (rBo (M 2) (M 7 2) (M 7 1) (M 7 3) Z).1.length → M' 9 2 = ckS 7 ((List.range ((rBo (M 2) (M 7 2) (M 7 1) (M 7 3) Z).2.1 - M 7 1).toNat).map (fun i => M 2 (M 7 1 + (i : Nat)))) → M' 9 3 = (rN (M 2) (M 7 2) 6 (rBo (M 2) (M 7 2) (M 7 1) (M 7 3) Z).2.1 (rBo (M 2) (M 7 2) (M 7 1) (M 7 3) Z).2.2.1).1 → M' 7 15 = (rBs (M 2) (M 7 2) (M 7 1) (M 7 3)).2.1 → (∀ b j, b ≠ 7 → b ≠ 9 → b ≠ 10 → ¬ (20 ≤ b ∧ b ≤ 28) → M' b j = M b j) → M' 7 2 = M 7 2 → M' 7 0 = M 7 0 → Q none M') : wc (kcs L xs) (d + 7) 61 [jR 7, jR 20] M Q := by
  have hS := h.1
  have hp := sc_p hS
  have hcb := rC_b (g := M 2) (e := M 7 2) (bs := bsB) (p := M 7 1) (w := M 7 3) hp.1
  have hnb := rBN_b (g := M 2) (e := M 7 2) (m := 3) (p := (rC (M 2) (M 7 2) bsB (M 7 1) (M 7 3)).2.1) (w := (rC (M 2) (M 7 2) bsB (M 7 1) (M 7 3)).2.2) (by omega) hcb.2.2.2.1
  refine s61 fx_scn7 puz20 (sp_chooseR (d := d + 2) fx_scn7 lt_B hS (s61_11 fx_scn7 puz20 ?_))
  have hS0 := sc_at_rd (p := (rC (M 2) (M 7 2) bsB (M 7 1) (M 7 3)).2.1) (w := (rC (M 2) (M 7 2) bsB (M 7 1) (M 7 3)).2.2) fx_scn7 hS (by omega) (by omega)
  have hg0 := rd_g (p := (rC (M 2) (M 7 2) bsB (M 7 1) (M 7 3)).2.1) (v := (rC (M 2) (M 7 2) bsB (M 7 1) (M 7 3)).2.2) fx_scn7 hS
  refine sp_tellNumber (d := d + 4) (m := 3) (i := 0) fx_scn7 hS0 (by omega) (by omega) (s61_18 fx_scn7 puz20 ?_)
  rw [hg0.1, hg0.2, rd_1, rd_3, rd_rd]
  unfold rBo rBs at K
  generalize rBN (M 2) (M 7 2) 3 (rC (M 2) (M 7 2) bsB (M 7 1) (M 7 3)).2.1 (rC (M 2) (M 7 2) bsB (M 7 1) (M 7 3)).2.2 = z at K hnb ⊢
  generalize hA : fx_up (fx_up (fx_up (rd M 7 z.2.1 z.2.2) (7 + 2) 0 z.1) 7 15 (fx_up (rd M 7 z.2.1 z.2.2) (7 + 2) 0 z.1 7 1)) (7 + 2) 1 0 = A
  have e71 : fx_up (rd M 7 z.2.1 z.2.2) (7 + 2) 0 z.1 7 1 = z.2.1 := by rw [fx_up_na (by decide), rd_1]
  rw [e71] at hA ⊢
  have af : ∀ b j, b ≠ 9 → ¬ (b = 7 ∧ (j = 1 ∨ j = 3 ∨ j = 15)) → A b j = M b j := fun b j b1 b2 => by rw [← hA, fx_up_na b1, fx_up_ne (by omega), fx_up_na b1, rd_ne (by omega)]
  have a1 : A 7 1 = z.2.1 := by rw [← hA, fx_up_na (by decide), fx_up_nk (by decide), fx_up_na (by decide), rd_1]
  have a3 : A 7 3 = z.2.2 := by rw [← hA, fx_up_na (by decide), fx_up_nk (by decide), fx_up_na (by decide), rd_3]
  have a15 : A 7 15 = z.2.1 := by rw [← hA, fx_up_na (by decide), fx_up_self]
  have a90 : A 9 0 = z.1 := by rw [← hA, fx_up_nk (by decide), fx_up_na (by decide), fx_up_self]
  have a91 : A 9 1 = 0 := by rw [← hA, fx_up_self]
  have ag : A 2 = M 2 := by
    funext j
    exact af 2 j (by decide) (by omega)
  have a2 : A 7 2 = M 7 2 := af 7 2 (by decide) (by omega)
  have a0 : A 7 0 = M 7 0 := af 7 0 (by decide) (by omega)
  have a4 : A 7 4 = M 7 4 := af 7 4 (by decide) (by omega)
  have hT : tx_st A 7 20 2 5606 0 Z := by
    obtain ⟨⟨c0, c1, c2, c3, c4, c5, c6, c7, c8⟩, b1, b2, b3, b4⟩ := h
    exact ⟨⟨by rw [a0]; exact c0, c1, c2, by rw [a1]; omega, by rw [a1, a2]; omega, by rw [a2]; exact c5, by rw [a3]; omega, by rw [a3]; omega, fun j j0 j1 => by rw [ag]; exact c8 j j0 j1⟩, by rw [a4]; exact b1, by rw [a4]; exact b2, cz_fr b3 (fun b j h1 h2 => af b j (by omega) (by omega)), b4⟩
  refine bk_loop (d := d) ((M 7 2 - z.2.1).toNat + 1) A z.2.1 0 0 Z hT a91 ⟨by omega, by omega⟩ (fun _ => by rw [a1]; exact Int.le_refl _) (by rw [a2]; omega) (by rw [a1, a2]; omega) ?_
  rw [ag, a1, a2, a3]
  have hBb := rBk_b (g := M 2) (e := M 7 2) (f := (M 7 2 - z.2.1).toNat + 1) (p := z.2.1) (w := z.2.2) (rf := 0) (Z := Z) (by omega) (by omega) (by omega)
  generalize rBk (M 2) (M 7 2) ((M 7 2 - z.2.1).toNat + 1) z.2.1 z.2.2 0 Z = B at K hBb
  intro P p1 p2 p3 p4 p5
  have pS := p1.1
  have pg : P 2 = M 2 := by
    funext j
    rw [p5.1 2 j (by decide) (by decide) (by omega) (by omega), ag]
  have q2 : P 7 2 = M 7 2 := by rw [p5.2.1, a2]
  rw [pS.1, Int.toNat_natCast, p2]
  have hb8 := hS.2.2.2.2.2.2.2.2
  have hl5 : M 7 2 ≤ 5606 := hS.2.2.2.2.2.1
  refine sp_checkOf (d := d + 5) (l := (List.range (B.2.1 - M 7 1).toNat).map (fun i => M 2 (M 7 1 + (i : Nat)))) fa2 (by omega) hp.2 (by rw [List.length_map, List.length_range]; omega) (by omega) (fun i c hc => ?_) (s61_158 fx_scn7 puz20 ⟨⟨by omega, by omega⟩, ?_⟩)
  · rw [List.getElem?_map] at hc
    have hil : i < (B.2.1 - M 7 1).toNat := by
      by_cases hx : i < (B.2.1 - M 7 1).toNat
      · exact hx
      · rw [List.getElem?_eq_none (by rw [List.length_range]; omega)] at hc
        cases hc
    rw [List.getElem?_range hil] at hc
    cases hc
    have := hb8 (M 7 1 + i) (by omega) (by omega)
    exact ⟨by rw [pg], this.1, this.2⟩
  · have hc := ckS_b (l := (List.range (B.2.1 - M 7 1).toNat).map (fun i => M 2 (M 7 1 + (i : Nat)))) (s := 7) ⟨by omega, by omega⟩
    generalize ckS 7 ((List.range (B.2.1 - M 7 1).toNat).map (fun i => M 2 (M 7 1 + (i : Nat)))) = ck at K hc
    have u7 : ∀ j, (fx_up P 9 2 ck) 7 j = P 7 j := fun j => fx_up_na (by decide)
    have uS : sc_at (fx_up P 9 2 ck) 7 2 5606 := sc_at_up pS (by decide) (by omega)
    have ug : (fx_up P 9 2 ck) 2 = M 2 := by
      funext j
      rw [fx_up_na (by decide), pg]
    refine sp_num (d := d + 5) (m := 6) fx_scn7 uS (by omega) (s61_170 fx_scn7 puz20 ⟨⟨by omega, by omega⟩, ?_⟩)
    show Q none (fx_up (rd (fx_up P 9 2 ck) 7 (rN ((fx_up P 9 2 ck) 2) ((fx_up P 9 2 ck) 7 2) 6 ((fx_up P 9 2 ck) 7 1) ((fx_up P 9 2 ck) 7 3)).2.1 (rN ((fx_up P 9 2 ck) 2) ((fx_up P 9 2 ck) 7 2) 6 ((fx_up P 9 2 ck) 7 1) ((fx_up P 9 2 ck) 7 3)).2.2) 9 3 (rN ((fx_up P 9 2 ck) 2) ((fx_up P 9 2 ck) 7 2) 6 ((fx_up P 9 2 ck) 7 1) ((fx_up P 9 2 ck) 7 3)).1)
    rw [ug, u7 2, u7 1, u7 3, q2, p2, p3]
    have nb := rN_b (g := M 2) (e := M 7 2) (m := 6) (p := B.2.1) (w := B.2.2.1) (by omega) (by omega)
    generalize rN (M 2) (M 7 2) 6 B.2.1 B.2.2.1 = y at K nb ⊢
    have xf : ∀ b j, b ≠ 9 → ¬ (b = 7 ∧ (j = 1 ∨ j = 3)) → fx_up (rd (fx_up P 9 2 ck) 7 y.2.1 y.2.2) 9 3 y.1 b j = P b j := fun b j b1 b2 => by rw [fx_up_na b1, rd_ne b2, fx_up_na b1]
    have x9 : ∀ j, j ≠ 3 → j ≠ 2 → fx_up (rd (fx_up P 9 2 ck) 7 y.2.1 y.2.2) 9 3 y.1 9 j = P 9 j := fun j j1 j2 => by rw [fx_up_nk j1, rd_ne (by omega), fx_up_nk j2]
    have x1 : fx_up (rd (fx_up P 9 2 ck) 7 y.2.1 y.2.2) 9 3 y.1 7 1 = y.2.1 := by rw [fx_up_na (by decide), rd_1]
    have x3 : fx_up (rd (fx_up P 9 2 ck) 7 y.2.1 y.2.2) 9 3 y.1 7 3 = y.2.2 := by rw [fx_up_na (by decide), rd_3]
    refine K _ ?_ x1 x3 ?_ ?_ ?_ (fx_up_self ..) ?_ (fun b j b1 b2 b3 b4 => ?_) ?_ ?_
    · obtain ⟨⟨c0, c1, c2, c3, c4, c5, c6, c7, c8⟩, b1, b2, b3, b4⟩ := p1
      exact ⟨⟨by rw [xf 7 0 (by decide) (by omega)]; exact c0, c1, c2, by rw [x1]; omega, by rw [x1, xf 7 2 (by decide) (by omega), q2]; omega, by rw [xf 7 2 (by decide) (by omega)]; exact c5, by rw [x3]; omega, by rw [x3]; omega, fun j j0 j1 => by rw [xf 2 j (by decide) (by omega)]; exact c8 j j0 j1⟩, by rw [xf 7 4 (by decide) (by omega)]; exact b1, by rw [xf 7 4 (by decide) (by omega)]; exact b2, cz_fr b3 (fun b j h1 h2 => xf b j (by omega) (by omega)), b4⟩
    · rw [x9 0 (by decide) (by decide), p5.1 9 0 (by decide) (by decide) (by omega) (by omega), a90]
    · rw [x9 1 (by decide) (by decide), p4]
      exact Int.zero_add _
    · rw [fx_up_nk (by decide), rd_ne (by omega), fx_up_self]
    · rw [xf 7 15 (by decide) (by omega), p5.2.2.2, a15]
    · rw [xf b j b2 (by omega), p5.1 b j b1 b3 b4 (by omega), af b j b2 (by omega)]
    · rw [xf 7 2 (by decide) (by omega), q2]
    · rw [xf 7 0 (by decide) (by omega), p5.2.2.1, a0]
end BOL
