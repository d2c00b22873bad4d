/-! The class reads a whole book. -/
abbrev BE : Type := Int × Int × Int
abbrev isL (c : Int) : Prop := 97 ≤ c ∧ c ≤ 122
/-- entries (name's place, its length, text's place), place, wrong, refusal, puzzle -/
def rBk (g : Int → Int) (e : Int) : Nat → Int → Int → Int → PZ → List BE × Int × Int × Int × PZ
  | 0, p, w, rf, Z => ([], p, w, rf, Z)
  | f + 1, p, w, rf, Z =>
    if w = 0 then
      (if (rT g e 47 p 0).2 = 0 ∧ (rT g e 47 p 0).1 < e ∧ isL (g (rT g e 47 p 0).1) then
        (((rT g e 47 p 0).1, (rNm g e (rT g e 47 p 0).1 0).1, (rT g e 32 ((rT g e 47 p 0).1 + (rNm g e (rT g e 47 p 0).1 0).1) (rNm g e (rT g e 47 p 0).1 0).2).1) :: (rBk g e f (rText g e (rT g e 32 ((rT g e 47 p 0).1 + (rNm g e (rT g e 47 p 0).1 0).1) (rNm g e (rT g e 47 p 0).1 0).2).1 (rT g e 32 ((rT g e 47 p 0).1 + (rNm g e (rT g e 47 p 0).1 0).1) (rNm g e (rT g e 47 p 0).1 0).2).2 rf Z).1 (rText g e (rT g e 32 ((rT g e 47 p 0).1 + (rNm g e (rT g e 47 p 0).1 0).1) (rNm g e (rT g e 47 p 0).1 0).2).1 (rT g e 32 ((rT g e 47 p 0).1 + (rNm g e (rT g e 47 p 0).1 0).1) (rNm g e (rT g e 47 p 0).1 0).2).2 rf Z).2.1 (rText g e (rT g e 32 ((rT g e 47 p 0).1 + (rNm g e (rT g e 47 p 0).1 0).1) (rNm g e (rT g e 47 p 0).1 0).2).1 (rT g e 32 ((rT g e 47 p 0).1 + (rNm g e (rT g e 47 p 0).1 0).1) (rNm g e (rT g e 47 p 0).1 0).2).2 rf Z).2.2.1 (rText g e (rT g e 32 ((rT g e 47 p 0).1 + (rNm g e (rT g e 47 p 0).1 0).1) (rNm g e (rT g e 47 p 0).1 0).2).1 (rT g e 32 ((rT g e 47 p 0).1 + (rNm g e (rT g e 47 p 0).1 0).1) (rNm g e (rT g e 47 p 0).1 0).2).2 rf Z).2.2.2).1,
        (rBk g e f (rText g e (rT g e 32 ((rT g e 47 p 0).1 + (rNm g e (rT g e 47 p 0).1 0).1) (rNm g e (rT g e 47 p 0).1 0).2).1 (rT g e 32 ((rT g e 47 p 0).1 + (rNm g e (rT g e 47 p 0).1 0).1) (rNm g e (rT g e 47 p 0).1 0).2).2 rf Z).1 (rText g e (rT g e 32 ((rT g e 47 p 0).1 + (rNm g e (rT g e 47 p 0).1 0).1) (rNm g e (rT g e 47 p 0).1 0).2).1 (rT g e 32 ((rT g e 47 p 0).1 + (rNm g e (rT g e 47 p 0).1 0).1) (rNm g e (rT g e 47 p 0).1 0).2).2 rf Z).2.1 (rText g e (rT g e 32 ((rT g e 47 p 0).1 + (rNm g e (rT g e 47 p 0).1 0).1) (rNm g e (rT g e 47 p 0).1 0).2).1 (rT g e 32 ((rT g e 47 p 0).1 + (rNm g e (rT g e 47 p 0).1 0).1) (rNm g e (rT g e 47 p 0).1 0).2).2 rf Z).2.2.1 (rText g e (rT g e 32 ((rT g e 47 p 0).1 + (rNm g e (rT g e 47 p 0).1 0).1) (rNm g e (rT g e 47 p 0).1 0).2).1 (rT g e 32 ((rT g e 47 p 0).1 + (rNm g e (rT g e 47 p 0).1 0).1) (rNm g e (rT g e 47 p 0).1 0).2).2 rf Z).2.2.2).2)
      else ([], (rT g e 47 p 0).1, (rT g e 47 p 0).2, rf, Z))
    else ([], p, w, rf, Z)
theorem rBk_w {g : Int → Int} {e : Int} {f : Nat} {p w rf : Int} {Z : PZ} (hw : w ≠ 0) : rBk g e f p w rf Z = ([], p, w, rf, Z) := by
  cases f with
  | zero => rfl
  | succ f => rw [rBk, if_neg hw]
theorem rBk_no {g : Int → Int} {e : Int} {f : Nat} {p rf p1 w1 : Int} {Z : PZ} (h1 : rT g e 47 p 0 = (p1, w1)) (h2 : ¬ (w1 = 0 ∧ p1 < e ∧ isL (g p1))) : rBk g e (f + 1) p 0 rf Z = ([], p1, w1, rf, Z) := by
  rw [rBk, if_pos rfl, h1, if_neg h2]
theorem rBk_go {g : Int → Int} {e : Int} {f : Nat} {p rf p1 n q w : Int} {Z : PZ} (h1 : rT g e 47 p 0 = (p1, 0)) (h2 : p1 < e ∧ isL (g p1)) (h3 : rNm g e p1 0 = (n, 0)) (h4 : rT g e 32 (p1 + n) 0 = (q, w)) : rBk g e (f + 1) p 0 rf Z = ((p1, n, q) :: (rBk g e f (rText g e q w rf Z).1 (rText g e q w rf Z).2.1 (rText g e q w rf Z).2.2.1 (rText g e q w rf Z).2.2.2).1, (rBk g e f (rText g e q w rf Z).1 (rText g e q w rf Z).2.1 (rText g e q w rf Z).2.2.1 (rText g e q w rf Z).2.2.2).2) := by
  rw [rBk, if_pos rfl, h1]
  dsimp only
  rw [if_pos ⟨rfl, h2⟩, h3]
  dsimp only
  rw [h4]
theorem rTx_b {g : Int → Int} {e : Int} : ∀ {f : Nat} {p w rf : Int} {Z : PZ}, p ≤ e → 0 ≤ w → w ≤ 1 → p ≤ (rTx g e f p w rf Z).1 ∧ (rTx g e f p w rf Z).1 ≤ e ∧ 0 ≤ (rTx g e f p w rf Z).2.1 ∧ (rTx g e f p w rf Z).2.1 ≤ 1
  | 0, p, w, _, _, h, h0, h1 => ⟨Int.le_refl p, h, h0, h1⟩
  | f + 1, p, w, rf, Z, h, h0, h1 => by
    rw [rTx]
    split
    · have hb := rPt_b (g := g) (e := e) (p := p + 1) (by omega)
      split
      · have := rTx_b (g := g) (f := f) (rf := (q_op Z (rPt g e (p + 1)).1).1) (Z := (q_op Z (rPt g e (p + 1)).1).2) hb.2.1 hb.2.2.1 hb.2.2.2
        omega
      · have := rTx_b (g := g) (f := f) (rf := rf) (Z := Z) hb.2.1 hb.2.2.1 hb.2.2.2
        omega
    · exact ⟨Int.le_refl p, h, h0, h1⟩
theorem rText_b {g : Int → Int} {e p w rf : Int} {Z : PZ} (h : p ≤ e) : p ≤ (rText g e p w rf Z).1 ∧ (rText g e p w rf Z).1 ≤ e ∧ 0 ≤ (rText g e p w rf Z).2.1 ∧ (rText g e p w rf Z).2.1 ≤ 1 := by
  have hc := rC_b (g := g) (e := e) (bs := bsN) (p := p) (w := w) h
  have h1 := rBN_b (g := g) (e := e) (m := 1) (p := (rC g e bsN p w).2.1) (w := (rC g e bsN p w).2.2) (by omega) hc.2.2.2.1
  have h2 := rBN_b (g := g) (e := e) (m := 1) (p := (rZ1 g e (rC g e bsN p w).2.1 (rC g e bsN p w).2.2).2.1) (w := (rZ1 g e (rC g e bsN p w).2.1 (rC g e bsN p w).2.2).2.2) (by omega) h1.2.1
  have h3 := rBN_b (g := g) (e := e) (m := 1) (p := (rZ2 g e (rC g e bsN p w).2.1 (rC g e bsN p w).2.2).2.1) (w := (rZ2 g e (rC g e bsN p w).2.1 (rC g e bsN p w).2.2).2.2) (by omega) h2.2.1
  have e1 : p ≤ (rZ1 g e (rC g e bsN p w).2.1 (rC g e bsN p w).2.2).2.1 := Int.le_trans hc.2.2.1 h1.1
  have e2 : p ≤ (rZ2 g e (rC g e bsN p w).2.1 (rC g e bsN p w).2.2).2.1 := Int.le_trans e1 h2.1
  have e3 : p ≤ (rZ3 g e (rC g e bsN p w).2.1 (rC g e bsN p w).2.2).2.1 := Int.le_trans e2 h3.1
  have h3' : (rZ3 g e (rC g e bsN p w).2.1 (rC g e bsN p w).2.2).2.1 ≤ e ∧ 0 ≤ (rZ3 g e (rC g e bsN p w).2.1 (rC g e bsN p w).2.2).2.2 ∧ (rZ3 g e (rC g e bsN p w).2.1 (rC g e bsN p w).2.2).2.2 ≤ 1 := ⟨h3.2.1, h3.2.2.1, h3.2.2.2.1⟩
  unfold rText
  generalize rZ3 g e (rC g e bsN p w).2.1 (rC g e bsN p w).2.2 = z at e3 h3'
  split
  · have := rTx_b (g := g) (f := (e - z.2.1).toNat + 1) (rf := (q_size Z (rZ1 g e (rC g e bsN p w).2.1 (rC g e bsN p w).2.2).1 (rZ2 g e (rC g e bsN p w).2.1 (rC g e bsN p w).2.2).1 z.1).1) (Z := (q_size Z (rZ1 g e (rC g e bsN p w).2.1 (rC g e bsN p w).2.2).1 (rZ2 g e (rC g e bsN p w).2.1 (rC g e bsN p w).2.2).1 z.1).2) h3'.1 h3'.2.1 h3'.2.2
    omega
  · have := rTx_b (g := g) (f := (e - z.2.1).toNat + 1) (rf := rf) (Z := Z) h3'.1 h3'.2.1 h3'.2.2
    omega
theorem rT_i {g : Int → Int} {e c p : Int} : (rT g e c p 0 = (p + 1, 0) ∧ p < e ∧ g p = c) ∨ (rT g e c p 0 = (p, 1) ∧ ¬ (p < e ∧ g p = c)) := by
  unfold rT
  rw [if_pos rfl]
  by_cases h1 : p < e
  · rw [if_pos h1]
    by_cases h2 : g p = c
    · rw [if_pos h2]
      exact Or.inl ⟨rfl, h1, h2⟩
    · rw [if_neg h2]
      exact Or.inr ⟨rfl, fun x => h2 x.2⟩
  · rw [if_neg h1]
    exact Or.inr ⟨rfl, fun x => h1 x.1⟩
theorem rNm_i {g : Int → Int} {e p : Int} (h1 : p < e) (h2 : isL (g p)) : ∃ n : Int, rNm g e p 0 = (n, 0) ∧ 1 ≤ n ∧ n ≤ 8 ∧ p + n ≤ e := by
  have hb := rL_b g e 8 p (by omega)
  have h3 : 1 ≤ rL g e 8 p := by
    rw [rL, if_pos ⟨h1, h2⟩]
    omega
  refine ⟨(rL g e 8 p : Nat), ?_, by omega, by omega, by omega⟩
  unfold rNm
  rw [if_pos rfl, if_neg (by omega)]
section BOK
variable {L : Nat} {xs : Nat → Int32} {d : Nat} {Q : Option fx_V → fx_M → Prop} {rf : Int} {Z : PZ}
def fbk (M M' : fx_M) : Prop := (∀ b j, b ≠ 7 → b ≠ 10 → ¬ (20 ≤ b ∧ b ≤ 28) → M' b j = M b j) ∧ M' 7 2 = M 7 2 ∧ M' 7 0 = M 7 0 ∧ M' 7 15 = M 7 15
theorem fbk_tr {M N P : fx_M} (h1 : fbk M N) (h2 : fbk N P) : fbk M P := ⟨fun b j a1 a2 a3 => by rw [h2.1 b j a1 a2 a3, h1.1 b j a1 a2 a3], by rw [h2.2.1, h1.2.1], by rw [h2.2.2.1, h1.2.2.1], by rw [h2.2.2.2, h1.2.2.2]⟩
theorem fbk_tfS {M N : fx_M} (h : tfS 7 20 M N) : fbk M N := ⟨fun b j a1 a2 a3 => h.1 b j a1 a2 a3, h.2.1, h.2.2 0 (Or.inl rfl), h.2.2 15 (by omega)⟩
theorem tx_9 {M : fx_M} {k v : Int} (h : tx_st M 7 20 2 5606 rf Z) : tx_st (fx_up M 9 k v) 7 20 2 5606 rf Z := by
  obtain ⟨⟨a0, a1, a2, a3, a4, a5, a6, a7, a8⟩, b1, b2, b3, b4⟩ := h
  have e : ∀ j, (fx_up M 9 k v) 7 j = M 7 j := fun j => fx_up_na (by decide)
  refine ⟨⟨by rw [e]; exact a0, a1, a2, by rw [e]; exact a3, by rw [e, e]; exact a4, by rw [e]; exact a5, by rw [e]; exact a6, by rw [e]; exact a7, fun j j0 j1 => by rw [fx_up_na (by decide)]; exact a8 j j0 j1⟩, by rw [e]; exact b1, by rw [e]; exact b2, cz_fr b3 (fun b j h1 h2 => fx_up_na (by omega)), b4⟩
/-- an entry: the name, a blank, the text -/
theorem bk_entry {M : fx_M} {p1 n q w : Int} (h : tx_st M 7 20 2 5606 rf Z) (h1 : M 7 1 = p1) (h3 : M 7 3 = 0) (hn : rNm (M 2) (M 7 2) p1 0 = (n, 0)) (hq : rT (M 2) (M 7 2) 32 (p1 + n) 0 = (q, w)) (hb : 1 ≤ n ∧ n ≤ 8 ∧ p1 + n ≤ M 7 2) {R1 R2 R3 : Option fx_V → fx_M → Prop} (k1 : ∀ N, wc (kcs L xs) (d + 6) 34 [jR 7, jI 32] N R2 → R1 none N) (k2 : ∀ N, wc (kcs L xs) (d + 6) 49 [jR 7, jR 20] N R3 → R2 none N) (k3 : ∀ M', tx_st M' 7 20 2 5606 (rText (M 2) (M 7 2) q w rf Z).2.2.1 (rText (M 2) (M 7 2) q w rf Z).2.2.2 → M' 7 1 = (rText (M 2) (M 7 2) q w rf Z).1 → M' 7 3 = (rText (M 2) (M 7 2) q w rf Z).2.1 → fbk M M' → M' 7 6 = p1 → M' 7 7 = n → R3 none M') : wc (kcs L xs) (d + 6) 40 [jR 7] M R1 := by
  have hS := h.1
  have hp := sc_p hS
  have ht := rT_b (g := M 2) (e := M 7 2) (c := 32) (p := p1 + n) (w := 0) hb.2.2
  rw [hq] at ht
  refine sp_name (d := d + 4) fx_scn7 hS ?_
  rw [h1, h3, hn]
  dsimp only
  refine k1 _ ?_
  generalize hA : fx_up (fx_up M 7 6 p1) 7 7 n = A
  have aS : sc_at A 7 2 5606 := by
    rw [← hA]
    exact sc_at_up (sc_at_up hS (by omega) (by omega)) (by omega) (by omega)
  have af : ∀ b j, ¬ (b = 7 ∧ (j = 6 ∨ j = 7)) → A b j = M b j := fun b j hb => by rw [← hA, fx_up_ne (by omega), fx_up_ne (by omega)]
  have a2 : A 7 2 = M 7 2 := af 7 2 (by omega)
  have ag : A 2 = M 2 := by
    funext j
    exact af 2 j (by omega)
  have a6 : A 7 6 = p1 := by rw [← hA, fx_up_nk (by decide), fx_up_self]
  have a7 : A 7 7 = n := by rw [← hA, fx_up_self]
  have hS1 := sc_at_rd (p := p1 + n) (w := 0) fx_scn7 aS (by omega) (by omega)
  have hg1 := rd_g (p := p1 + n) (v := 0) fx_scn7 aS
  refine sp_take (d := d + 5) fx_scn7 hS1 (by omega) ?_
  rw [hg1.1, hg1.2, rd_1, rd_3, rd_rd, ag, a2, hq]
  dsimp only
  refine k2 _ ?_
  have hTx : tx_st (rd A 7 q w) 7 20 2 5606 rf Z := by
    refine tx_read fx_scn7 puz20 (by decide) h (fun b j c1 c2 => ?_) (by rw [rd_1]; omega) (by rw [rd_3]; omega)
    rw [rd_ne (by omega), af b j (by omega)]
  have hg2 := rd_g (p := q) (v := w) fx_scn7 aS
  refine sp_textS (d := d) fx_scn7 puz20 (by decide) (by omega) hTx (fun M' m1 m2 m3 m4 => ?_)
  rw [hg2.1, hg2.2, rd_1, rd_3, ag, a2] at m1 m2 m3
  have fr : fbk M (rd A 7 q w) := ⟨fun b j c1 c2 c3 => by rw [rd_ne (by omega), af b j (by omega)], by rw [rd_ne (by omega), a2], by rw [rd_ne (by omega), af 7 0 (by omega)], by rw [rd_ne (by omega), af 7 15 (by omega)]⟩
  refine k3 M' m1 m2 m3 (fbk_tr fr (fbk_tfS m4)) ?_ ?_
  · rw [m4.2.2 6 (by omega), rd_ne (by omega), a6]
  · rw [m4.2.2 7 (by omega), rd_ne (by omega), a7]
end BOK
