/-! The class reads the lines of a proof. -/
theorem rC_L {g : Int → Int} {e p : Int} : rC g e bsL p 0 = if p < e then (if g p = 103 then (0, p + 1, 0) else if g p = 114 then (1, p + 1, 0) else if g p = 119 then (2, p + 1, 0) else if g p = 117 then (3, p + 1, 0) else if g p = 98 then (4, p + 1, 0) else (-1, p, 1)) else (-1, p, 1) := by
  unfold rC chs
  rw [if_pos rfl, show bsL.map Int32.toInt = [103, 32, 114, 32, 119, 32, 117, 32, 98] by decide +kernel]
  by_cases h : p < e
  · by_cases h1 : g p = 103
    · simp [chl, ch_b, ch_l, ch_r, ch_k, h, h1]
    · by_cases h2 : g p = 114
      · simp [chl, ch_b, ch_l, ch_r, ch_k, h, h2]
      · by_cases h3 : g p = 119
        · simp [chl, ch_b, ch_l, ch_r, ch_k, h, h3]
        · by_cases h4 : g p = 117
          · simp [chl, ch_b, ch_l, ch_r, ch_k, h, h4]
          · by_cases h5 : g p = 98
            · simp [chl, ch_b, ch_l, ch_r, ch_k, h, h5]
            · simp [chl, ch_b, ch_l, ch_r, ch_k, h, h1, h2, h3, h4, h5]
  · simp [chl, ch_b, ch_l, ch_r, ch_k, h]
theorem rC_G {g : Int → Int} {e p : Int} : rC g e bsG p 0 = if p < e then (if g p = 43 then (0, p + 1, 0) else if g p = 45 then (1, p + 1, 0) else (-1, p, 1)) else (-1, p, 1) := by
  unfold rC chs
  rw [if_pos rfl, show bsG.map Int32.toInt = [43, 32, 45] by decide +kernel]
  by_cases h : p < e
  · by_cases h1 : g p = 43
    · simp [chl, ch_b, ch_l, ch_r, ch_k, h, h1]
    · by_cases h2 : g p = 45
      · simp [chl, ch_b, ch_l, ch_r, ch_k, h, h2]
      · simp [chl, ch_b, ch_l, ch_r, ch_k, h, h1, h2]
  · simp [chl, ch_b, ch_l, ch_r, ch_k, h]
theorem rC_w1 {g : Int → Int} {e p : Int} {bs : List Int32} : rC g e bs p 1 = (-1, p, 1) := by
  unfold rC
  rw [if_neg (by decide)]
theorem rT_w1 {g : Int → Int} {e c p : Int} : rT g e c p 1 = (p, 1) := by
  unfold rT
  rw [if_neg (by decide)]
theorem rN_w1 {g : Int → Int} {e p : Int} {m : Nat} : rN g e m p 1 = (0, p, 1) := by
  unfold rN
  rw [if_neg (by omega)]
theorem rLs_w1 {g : Int → Int} {e p : Int} : ∀ {f : Nat}, rLs g e f p 1 = ([], p, 1)
  | 0 => rfl
  | f + 1 => by
    rw [rLs, if_neg (by omega)]
theorem rLs_b {g : Int → Int} {e : Int} : ∀ (f : Nat) (p w : Int), p ≤ e → 0 ≤ w → w ≤ 1 → p ≤ (rLs g e f p w).2.1 ∧ (rLs g e f p w).2.1 ≤ e ∧ 0 ≤ (rLs g e f p w).2.2 ∧ (rLs g e f p w).2.2 ≤ 1 ∧ lts (rLs g e f p w).1
  | 0, p, w, h, h0, h1 => ⟨Int.le_refl _, h, h0, h1, fun x hx => by cases hx⟩
  | f + 1, p, w, h, h0, h1 => by
    rw [rLs]
    split
    · have b := rLt_b (g := g) (e := e) (p := p) (w := w) h
      have ih := rLs_b (g := g) f (rLt g e p w).2.1 (rLt g e p w).2.2 b.2.1 b.2.2.1 b.2.2.2.1
      refine ⟨Int.le_trans b.1 ih.1, ih.2.1, ih.2.2.1, ih.2.2.2.1, fun x hx => ?_⟩
      rcases List.mem_cons.mp hx with e | e
      · rw [e]
        exact b.2.2.2.2
      · exact ih.2.2.2.2 x e
    · exact ⟨Int.le_refl _, h, h0, h1, fun x hx => by cases hx⟩
/-- a literal goes on by a byte at least -/
theorem rLt_up {g : Int → Int} {e p : Int} (h : p < e) (hg : g p = 32) : p + 1 ≤ (rLt g e p 0).2.1 := by
  have e1 : rT g e 32 p 0 = (p + 1, 0) := by
    unfold rT
    rw [if_pos rfl, if_pos h, if_pos hg]
  have b1 := rC_b (g := g) (e := e) (bs := bsG) (p := p + 1) (w := 0) (by omega)
  have ea : rLa g e p 0 = rC g e bsG (p + 1) 0 := by
    unfold rLa
    rw [e1]
  have b2 := rN_b (g := g) (e := e) (m := 3) (p := (rLa g e p 0).2.1) (w := (rLa g e p 0).2.2) (by omega) (by rw [ea]; exact b1.2.2.2.1)
  have b3 := rT_b (g := g) (e := e) (c := 46) (p := (rLb g e p 0).2.1) (w := (rLb g e p 0).2.2) b2.2.1
  have b4 := rN_b (g := g) (e := e) (m := 3) (p := (rLc g e p 0).1) (w := (rLc g e p 0).2) (by omega) b3.2.1
  have q1 : (rLa g e p 0).2.1 ≤ (rLb g e p 0).2.1 := b2.1
  have q2 : (rLb g e p 0).2.1 ≤ (rLc g e p 0).1 := b3.1
  have q3 : (rLc g e p 0).1 ≤ (rLd g e p 0).2.1 := b4.1
  have q0 : p + 1 ≤ (rLa g e p 0).2.1 := by
    rw [ea]
    exact b1.2.2.1
  show p + 1 ≤ (rLd g e p 0).2.1
  omega
theorem rKa_b {g : Int → Int} {e p w : Int} (h : p ≤ e) : -1 ≤ (rKa g e p w).1 ∧ (rKa g e p w).1 ≤ 10 ∧ p ≤ (rKa g e p w).2.1 ∧ (rKa g e p w).2.1 ≤ e ∧ 0 ≤ (rKa g e p w).2.2 ∧ (rKa g e p w).2.2 ≤ 1 := rC_b (bs := bsL) h
theorem rKb_b {g : Int → Int} {e p w : Int} (h : p ≤ e) : p ≤ (rKb g e p w).2.1 ∧ (rKb g e p w).2.1 ≤ e ∧ 0 ≤ (rKb g e p w).2.2 ∧ (rKb g e p w).2.2 ≤ 1 ∧ 0 ≤ (rKb g e p w).1 ∧ (rKb g e p w).1 < 1000 := by
  have a := rKa_b (g := g) (w := w) h
  have b := rN_b (g := g) (e := e) (m := 3) (p := (rKa g e p w).2.1) (w := (rKa g e p w).2.2) (by omega) a.2.2.2.1
  have e2 : ((10 ^ 3 : Nat) : Int) = 1000 := by decide
  rw [e2] at b
  unfold rKb
  split
  · exact ⟨by omega, b.2⟩
  · exact ⟨a.2.2.1, a.2.2.2.1, a.2.2.2.2.1, a.2.2.2.2.2, by omega, by omega⟩
theorem rKc_b {g : Int → Int} {e p w : Int} (h : p ≤ e) : p ≤ (rKc g e p w).2.1 ∧ (rKc g e p w).2.1 ≤ e ∧ 0 ≤ (rKc g e p w).2.2 ∧ (rKc g e p w).2.2 ≤ 1 ∧ 0 ≤ (rKc g e p w).1 ∧ (rKc g e p w).1 < 1000 := by
  have a := rKb_b (g := g) (w := w) h
  have b := rBN_b (g := g) (e := e) (m := 3) (p := (rKb g e p w).2.1) (w := (rKb g e p w).2.2) (by omega) a.2.1
  have e2 : ((10 ^ 3 : Nat) : Int) = 1000 := by decide
  rw [e2] at b
  unfold rKc
  split
  · exact ⟨by omega, b.2⟩
  · exact ⟨a.1, a.2.1, a.2.2.1, a.2.2.2.1, by omega, by omega⟩
theorem rKd_b {g : Int → Int} {e p w : Int} (h : p ≤ e) : p ≤ (rKd g e p w).2.1 ∧ (rKd g e p w).2.1 ≤ e ∧ 0 ≤ (rKd g e p w).2.2 ∧ (rKd g e p w).2.2 ≤ 1 ∧ lts (rKd g e p w).1 := by
  have a := rKc_b (g := g) (w := w) h
  have b := rLs_b (g := g) (e := e) ((e - (rKc g e p w).2.1).toNat + 1) (rKc g e p w).2.1 (rKc g e p w).2.2 a.2.1 a.2.2.1 a.2.2.2.1
  exact ⟨Int.le_trans a.1 b.1, b.2⟩
theorem rLn_b {g : Int → Int} {e p w : Int} (h : p ≤ e) : p ≤ (rLn g e p w).2.1 ∧ (rLn g e p w).2.1 ≤ e ∧ 0 ≤ (rLn g e p w).2.2 ∧ (rLn g e p w).2.2 ≤ 1 := by
  have a := rKd_b (g := g) (w := w) h
  have b := rT_b (g := g) (e := e) (c := 59) (p := (rKd g e p w).2.1) (w := (rKd g e p w).2.2) a.2.1
  exact ⟨Int.le_trans a.1 b.1, b.2⟩
/-- a line that is right has two bytes at least -/
theorem rLn_up {g : Int → Int} {e p : Int} (h : p ≤ e) (h0 : (rLn g e p 0).2.2 = 0) : p + 2 ≤ (rLn g e p 0).2.1 := by
  have h1 : (rKa g e p 0).2.2 = 0 → p + 1 ≤ (rKa g e p 0).2.1 := by
    unfold rKa
    rw [rC_L]
    intro hw
    repeat' split at hw
    all_goals first | (simp only at hw ⊢; simp [*]) | omega
  have a := rKa_b (g := g) (w := 0) h
  have hb : rKb g e p 0 = if (rKa g e p 0).1 = 0 ∨ (rKa g e p 0).1 = 1 ∨ (rKa g e p 0).1 = 2 then rN g e 3 (rKa g e p 0).2.1 (rKa g e p 0).2.2 else (0, (rKa g e p 0).2) := rfl
  have hw : (rKd g e p 0).2.2 = 0 := by
    by_cases hne : (rKd g e p 0).2.2 = 0
    · exact hne
    · have : (rKd g e p 0).2.2 = 1 := by have := rKd_b (g := g) (w := 0) h; omega
      have e1 : (rLn g e p 0).2.2 = 1 := by
        show (rT g e 59 (rKd g e p 0).2.1 (rKd g e p 0).2.2).2 = 1
        rw [this, rT_w1]
      omega
  have hc : (rKc g e p 0).2.2 = 0 := by
    by_cases hne : (rKc g e p 0).2.2 = 0
    · exact hne
    · have e0 : (rKc g e p 0).2.2 = 1 := by have := rKc_b (g := g) (w := 0) h; omega
      have e1 : (rKd g e p 0).2.2 = 1 := by
        show (rLs g e _ (rKc g e p 0).2.1 (rKc g e p 0).2.2).2.2 = 1
        rw [e0, rLs_w1]
      omega
  have hbw : (rKb g e p 0).2.2 = 0 := by
    by_cases hne : (rKb g e p 0).2.2 = 0
    · exact hne
    · have e0 : (rKb g e p 0).2.2 = 1 := by have := rKb_b (g := g) (w := 0) h; omega
      have e1 : (rKc g e p 0).2.2 = 1 := by
        unfold rKc
        split
        · unfold rBN
          rw [e0, rT_w1, rN_w1]
        · exact e0
      omega
  have ha : (rKa g e p 0).2.2 = 0 := by
    by_cases hne : (rKa g e p 0).2.2 = 0
    · exact hne
    · have e0 : (rKa g e p 0).2.2 = 1 := by omega
      have e1 : (rKb g e p 0).2.2 = 1 := by
        unfold rKb
        split
        · rw [e0, rN_w1]
        · exact e0
      omega
  have q1 := h1 ha
  have q2 : (rKa g e p 0).2.1 ≤ (rKb g e p 0).2.1 := by
    have b := rN_b (g := g) (e := e) (m := 3) (p := (rKa g e p 0).2.1) (w := (rKa g e p 0).2.2) (by omega) a.2.2.2.1
    rw [hb]
    split
    · exact b.1
    · exact Int.le_refl _
  have q3 : (rKb g e p 0).2.1 ≤ (rKc g e p 0).2.1 := by
    have b := rBN_b (g := g) (e := e) (m := 3) (p := (rKb g e p 0).2.1) (w := (rKb g e p 0).2.2) (by omega) (rKb_b (g := g) (w := 0) h).2.1
    unfold rKc
    split
    · exact b.1
    · exact Int.le_refl _
  have q4 : (rKc g e p 0).2.1 ≤ (rKd g e p 0).2.1 := by
    have cb := rKc_b (g := g) (w := 0) h
    exact (rLs_b (g := g) (e := e) ((e - (rKc g e p 0).2.1).toNat + 1) (rKc g e p 0).2.1 (rKc g e p 0).2.2 cb.2.1 cb.2.2.1 cb.2.2.2.1).1
  have q5 : (rKd g e p 0).2.1 + 1 ≤ (rLn g e p 0).2.1 := by
    have e0 : (rT g e 59 (rKd g e p 0).2.1 (rKd g e p 0).2.2).2 = 0 := h0
    show (rKd g e p 0).2.1 + 1 ≤ (rT g e 59 (rKd g e p 0).2.1 (rKd g e p 0).2.2).1
    rw [hw] at e0 ⊢
    unfold rT at e0 ⊢
    rw [if_pos rfl] at e0 ⊢
    split at e0
    · next h1 =>
      rw [if_pos h1]
      split at e0
      · next h2 =>
        rw [if_pos h2]
        exact Int.le_refl _
      · simp at e0
    · simp at e0
  omega
theorem rPf_len {g : Int → Int} {e : Int} : ∀ (f : Nat) (p : Int), p ≤ e → 2 * ((rPf g e f p).1.length : Int) ≤ e - p + 2
  | 0, p, h => by
    rw [rPf]
    simp
    omega
  | f + 1, p, h => by
    rw [rPf]
    split
    · next hc =>
      have u := rLn_up h hc.1
      have ih := rPf_len (g := g) (e := e) f (rLn g e p 0).2.1 (by omega)
      rw [List.length_cons]
      omega
    · simp
      omega
section CRL
variable {L : Nat} {xs : Nat → Int32} {d : Nat} {Q : Option fx_V → fx_M → Prop} {Z : PZ}
theorem lqf_tr {i : Int} {M N O : fx_M} (h1 : lqf i M N) (h2 : lqf i N O) : lqf i M O := fun b j a1 a2 => (h2 b j a1 a2).trans (h1 b j a1 a2)
theorem lqf_g {i : Int} {M N : fx_M} (h : lqf i M N) : N 2 = M 2 ∧ N 7 2 = M 7 2 := ⟨funext (fun j => h 2 j (by omega) (by omega)), h 7 2 (by omega) (by omega)⟩
theorem lqf_cz {i : Int} {M N : fx_M} (h : lqf i M N) (hz : cz M 11 Z) : cz N 11 Z := cz_fr hz (fun b j h1 h2 => h b j (by omega) (by omega))
theorem rl_loop (ho : pz_ok Z) {i : Int} (hi : 0 ≤ i ∧ i < 1600) {k f0 g0 : Int} {n : Nat} : ∀ (f : Nat) (M : fx_M) (j : Int) (q : List LT), sc_at M 7 2 n → cz M 11 Z → lts q → cln Z M i k f0 g0 q → (M 7 3 = 0 → j ≤ M 7 1) → 0 ≤ j → j ≤ M 7 2 + 1 → M 7 2 - M 7 1 < f → (∀ M', sc_at M' 7 2 n → M' 7 1 = (rT (M 2) (M 7 2) 59 (rLs (M 2) (M 7 2) f (M 7 1) (M 7 3)).2.1 (rLs (M 2) (M 7 2) f (M 7 1) (M 7 3)).2.2).1 → M' 7 3 = (rT (M 2) (M 7 2) 59 (rLs (M 2) (M 7 2) f (M 7 1) (M 7 3)).2.1 (rLs (M 2) (M 7 2) f (M 7 1) (M 7 3)).2.2).2 → cln Z M' i k f0 g0 (q ++ (rLs (M 2) (M 7 2) f (M 7 1) (M 7 3)).1) → lqf i M M' → Q none M') → wp (kcs L xs) (d + 6) 59 112 [some (jR 34), some (jR 7), some (jI i), some (jI j)] [] M Q := by
  have Hs := fx_scn7
  intro f
  induction f with
  | zero =>
    intro M j q hS hz hq hl h1 h2 h3 h4
    have := sc_p hS
    omega
  | succ f ih =>
    intro M j q hS hz hq hl h1 h2 h3 h4 K
    have hp := sc_p hS
    obtain ⟨a0, a1, a2, a3, a4, a5, a6, a7, a8⟩ := hS
    have hS : sc_at M 7 2 n := ⟨a0, a1, a2, a3, a4, a5, a6, a7, a8⟩
    have stop : ¬ (M 7 3 = 0 ∧ M 7 1 < M 7 2 ∧ M 2 (M 7 1) = 32) → wc (kcs L xs) (d + 5) 34 [jR 7, jI 59] M (fun v M1 => wp (kcs L xs) (d + 6) 59 147 [none, none, none, none] (v.toList ++ []) M1 Q) := fun hn => by
      rw [rLs, if_neg hn, List.append_nil] at K
      have b := rT_b (g := M 2) (e := M 7 2) (c := 59) (p := M 7 1) (w := M 7 3) hp.1
      refine sp_take (d := d + 4) Hs hS ⟨by omega, by omega⟩ (s59_147 Hs (K _ (sc_at_rd Hs hS ⟨by omega, b.2.1⟩ b.2.2) (rd_1 ..) (rd_3 ..) ?_ (fun b j e1 _ => rd_ne e1)))
      obtain ⟨l1, l2, l3, l4, l5, l6⟩ := hl
      have rn : ∀ (b : Nat) (j : Int), b ≠ 7 → (rd M 7 (rT (M 2) (M 7 2) 59 (M 7 1) (M 7 3)).1 (rT (M 2) (M 7 2) 59 (M 7 1) (M 7 3)).2) b j = M b j := fun b j hb => rd_ne (fun e => hb e.1)
      exact ⟨by rw [rn _ _ (by decide)]; exact l1, by rw [rn _ _ (by decide)]; exact l2, fun h => by rw [rn _ _ (by decide)]; exact l3 h, fun h => by rw [rn _ _ (by decide)]; exact l4 h, by rw [rn _ _ (by decide)]; exact l5, by rw [rn _ _ (by decide)]; exact l6⟩
    refine s59_112 Hs ⟨⟨⟨by omega, by omega⟩, ⟨by omega, by omega⟩⟩, fun hgt => stop (fun e => by have := h1 e.1; omega), fun hle => sp_ahead (d := d + 4) Hs hS ⟨by omega, by omega⟩ (fun e1 e2 e3 => s59_126 Hs ⟨⟨by omega, by omega⟩, fun h => by omega, fun _ => ?_⟩) (fun hn => s59_126 Hs ⟨⟨by omega, by omega⟩, fun _ => stop hn, fun h => absurd rfl h⟩)⟩
    rw [rLs, if_pos ⟨e1, e2, e3⟩, e1] at K
    refine sp_readLit (d := d) hS hz ho hi hq hl (fun M1 S1 p1 w1 c1 f1 => s59_135 Hs ?_)
    rw [e1] at p1 w1 c1
    obtain ⟨g1, g2⟩ := lqf_g f1
    have up := rLt_up (g := M 2) e2 e3
    have lb := rLt_b (g := M 2) (e := M 7 2) (p := M 7 1) (w := 0) hp.1
    refine ih M1 (j + 1) _ S1 (lqf_cz f1 hz) (fun x hx => ?_) c1 (fun _ => by rw [p1]; have := h1 e1; omega) (by omega) (by rw [g2]; omega) (by rw [g2, p1]; omega) (fun M' S2 p2 w2 c2 f2 => ?_)
    · rcases List.mem_append.mp hx with h | h
      · exact hq x h
      · rw [List.mem_singleton] at h
        rw [h]
        exact lb.2.2.2.2
    · rw [g1, g2, p1, w1] at p2 w2 c2
      refine K M' S2 p2 w2 ?_ (lqf_tr f1 f2)
      rw [List.append_assoc, List.singleton_append] at c2
      exact c2
/-- what reading line i may change -/
def lnf (i : Int) (M N : fx_M) : Prop := ∀ b j, ¬ (b = 7 ∧ (j = 1 ∨ j = 3)) → ¬ ((35 ≤ b ∧ b ≤ 39) ∧ j = i) → N b j = M b j
theorem lnf_l {i : Int} {M N : fx_M} (h : lqf i M N) : lnf i M N := fun b j h1 h2 => h b j h1 (by omega)
theorem lnf_tr {i : Int} {M N O : fx_M} (h1 : lnf i M N) (h2 : lnf i N O) : lnf i M O := fun b j a1 a2 => (h2 b j a1 a2).trans (h1 b j a1 a2)
theorem sta_z : sta 0 (fun _ => 0) := ⟨⟨by omega, by omega⟩, fun i _ => by rw [lbit_0, Nat.zero_testBit, Bool.and_false]⟩
theorem ltM_nil {b : Bool} : ltM Z b [] = fun _ => 0 := rfl
theorem flw_nil : ¬ flw Z [] := by
  unfold flw
  simp
theorem rl_tail (ho : pz_ok Z) {i : Int} (hi : 0 ≤ i ∧ i < 1600) {k f0 g0 : Int} {n : Nat} {M : fx_M} {p w : Int} (hS : sc_at M 7 2 n) (hz : cz M 11 Z) (h1 : M 7 1 = p) (h3 : M 7 3 = w) (h35 : M 35 i = k) (h36 : M 36 i = f0) (h37 : M 37 i = g0) (h38 : M 38 i = 0) (h39 : M 39 i = 0) (K : ∀ M', sc_at M' 7 2 n → M' 7 1 = (rT (M 2) (M 7 2) 59 (rLs (M 2) (M 7 2) ((M 7 2 - p).toNat + 1) p w).2.1 (rLs (M 2) (M 7 2) ((M 7 2 - p).toNat + 1) p w).2.2).1 → M' 7 3 = (rT (M 2) (M 7 2) 59 (rLs (M 2) (M 7 2) ((M 7 2 - p).toNat + 1) p w).2.1 (rLs (M 2) (M 7 2) ((M 7 2 - p).toNat + 1) p w).2.2).2 → cln Z M' i k f0 g0 (rLs (M 2) (M 7 2) ((M 7 2 - p).toNat + 1) p w).1 → lnf i M M' → Q none M') : wp (kcs L xs) (d + 6) 59 112 [some (jR 34), some (jR 7), some (jI i), some (jI (M 7 1))] [] M Q := by
  have hp := sc_p hS
  subst h1 h3
  refine rl_loop ho hi ((M 7 2 - M 7 1).toNat + 1) M (M 7 1) [] hS hz (fun x hx => by cases hx) ⟨h36, h37, fun h => absurd h flw_nil, fun _ => h35, by rw [h38, ltM_nil]; exact sta_z, by rw [h39, ltM_nil]; exact sta_z⟩ (fun _ => Int.le_refl _) hp.2 (by omega) (by omega) (fun M' S p w c f => K M' S p w ?_ (lnf_l f))
  rw [List.nil_append] at c
  exact c
theorem sp_readLine (ho : pz_ok Z) {i : Int} (hi : 0 ≤ i ∧ i < 1600) {n : Nat} {M : fx_M} (hS : sc_at M 7 2 n) (hz : cz M 11 Z) (K : ∀ M', sc_at M' 7 2 n → M' 7 1 = (rLn (M 2) (M 7 2) (M 7 1) (M 7 3)).2.1 → M' 7 3 = (rLn (M 2) (M 7 2) (M 7 1) (M 7 3)).2.2 → cln Z M' i (rLn (M 2) (M 7 2) (M 7 1) (M 7 3)).1.1 (rLn (M 2) (M 7 2) (M 7 1) (M 7 3)).1.2.1 (rLn (M 2) (M 7 2) (M 7 1) (M 7 3)).1.2.2.1 (rLn (M 2) (M 7 2) (M 7 1) (M 7 3)).1.2.2.2 → lnf i M M' → Q none M') : wc (kcs L xs) (d + 6) 59 [jR 34, jR 7, jI i] M Q := by
  have Hs := fx_scn7
  have hp := sc_p hS
  have a := rKa_b (g := M 2) (w := M 7 3) hp.1
  have b := rKb_b (g := M 2) (w := M 7 3) hp.1
  have c := rKc_b (g := M 2) (w := M 7 3) hp.1
  have eb : rKb (M 2) (M 7 2) (M 7 1) (M 7 3) = if (rKa (M 2) (M 7 2) (M 7 1) (M 7 3)).1 = 0 ∨ (rKa (M 2) (M 7 2) (M 7 1) (M 7 3)).1 = 1 ∨ (rKa (M 2) (M 7 2) (M 7 1) (M 7 3)).1 = 2 then rN (M 2) (M 7 2) 3 (rKa (M 2) (M 7 2) (M 7 1) (M 7 3)).2.1 (rKa (M 2) (M 7 2) (M 7 1) (M 7 3)).2.2 else (0, (rKa (M 2) (M 7 2) (M 7 1) (M 7 3)).2) := rfl
  have ec : rKc (M 2) (M 7 2) (M 7 1) (M 7 3) = if (rKa (M 2) (M 7 2) (M 7 1) (M 7 3)).1 = 2 then rBN (M 2) (M 7 2) 3 (rKb (M 2) (M 7 2) (M 7 1) (M 7 3)).2.1 (rKb (M 2) (M 7 2) (M 7 1) (M 7 3)).2.2 else (0, (rKb (M 2) (M 7 2) (M 7 1) (M 7 3)).2) := rfl
  refine s59 Hs (sp_chooseR (d := d + 1) Hs lt_1000025 hS (s59_11 Hs ?_))
  have ek : rC (M 2) (M 7 2) [103, 32, 114, 32, 119, 32, 117, 32, 98] (M 7 1) (M 7 3) = rKa (M 2) (M 7 2) (M 7 1) (M 7 3) := rfl
  rw [ek]
  have dn : ∀ (N : fx_M), sc_at N 7 2 n → cz N 11 Z → lnf i M N → N 7 1 = (rKc (M 2) (M 7 2) (M 7 1) (M 7 3)).2.1 → N 7 3 = (rKc (M 2) (M 7 2) (M 7 1) (M 7 3)).2.2 → N 35 i = (rKa (M 2) (M 7 2) (M 7 1) (M 7 3)).1 → N 36 i = (rKb (M 2) (M 7 2) (M 7 1) (M 7 3)).1 → N 37 i = (rKc (M 2) (M 7 2) (M 7 1) (M 7 3)).1 → N 38 i = 0 → N 39 i = 0 → wp (kcs L xs) (d + 6) 59 112 [some (jR 34), some (jR 7), some (jI i), some (jI (N 7 1))] [] N Q := fun N SN zN fN h1 h3 h35 h36 h37 h38 h39 => by
    have g1 : N 2 = M 2 := funext (fun j => fN 2 j (by omega) (by omega))
    have g2 : N 7 2 = M 7 2 := fN 7 2 (by omega) (by omega)
    refine rl_tail ho hi SN zN h1 h3 h35 h36 h37 h38 h39 (fun M' S p w cl f => K M' S ?_ ?_ ?_ (lnf_tr fN f))
    · rw [g1, g2] at p
      exact p
    · rw [g1, g2] at w
      exact w
    · rw [g1, g2] at cl
      exact cl
  generalize hN0 : rd M 7 (rKa (M 2) (M 7 2) (M 7 1) (M 7 3)).2.1 (rKa (M 2) (M 7 2) (M 7 1) (M 7 3)).2.2 = N0
  have S0 : sc_at N0 7 2 n := by rw [← hN0]; exact sc_at_rd Hs hS ⟨by omega, a.2.2.2.1⟩ a.2.2.2.2
  have f0 : ∀ b j, ¬ (b = 7 ∧ (j = 1 ∨ j = 3)) → N0 b j = M b j := fun b j h => by rw [← hN0]; exact rd_ne h
  have p0 : N0 7 1 = (rKa (M 2) (M 7 2) (M 7 1) (M 7 3)).2.1 := by rw [← hN0]; exact rd_1 ..
  have w0 : N0 7 3 = (rKa (M 2) (M 7 2) (M 7 1) (M 7 3)).2.2 := by rw [← hN0]; exact rd_3 ..
  generalize hkk : (rKa (M 2) (M 7 2) (M 7 1) (M 7 3)).1 = kk at a eb ec dn ⊢
  rw [fx_up_self]
  generalize hN5 : fx_up (fx_up (fx_up (fx_up (fx_up N0 35 i kk) 36 i 0) 37 i 0) 38 i 0) 39 i 0 = N5
  have f5 : ∀ b j, ¬ ((35 ≤ b ∧ b ≤ 39) ∧ j = i) → N5 b j = N0 b j := fun b j h => by
    rw [← hN5, fx_up_ne (by omega), fx_up_ne (by omega), fx_up_ne (by omega), fx_up_ne (by omega), fx_up_ne (by omega)]
  have v35 : N5 35 i = kk := by rw [← hN5, fx_up_na (by decide), fx_up_na (by decide), fx_up_na (by decide), fx_up_na (by decide), fx_up_self]
  have v36 : N5 36 i = 0 := by rw [← hN5, fx_up_na (by decide), fx_up_na (by decide), fx_up_na (by decide), fx_up_self]
  have v37 : N5 37 i = 0 := by rw [← hN5, fx_up_na (by decide), fx_up_na (by decide), fx_up_self]
  have v38 : N5 38 i = 0 := by rw [← hN5, fx_up_na (by decide), fx_up_self]
  have v39 : N5 39 i = 0 := by rw [← hN5, fx_up_self]
  have S5 : sc_at N5 7 2 n := by
    rw [← hN5]
    exact sc_at_up (sc_at_up (sc_at_up (sc_at_up (sc_at_up S0 (by decide) (by omega)) (by decide) (by omega)) (by decide) (by omega)) (by decide) (by omega)) (by decide) (by omega)
  have z5 : cz N5 11 Z := cz_fr hz (fun b j h1 h2 => by rw [f5 b j (by omega), f0 b j (by omega)])
  have fr5 : lnf i M N5 := fun b j h1 h2 => by rw [f5 b j h2, f0 b j h1]
  have g5 : N5 2 = M 2 := funext (fun j => fr5 2 j (by omega) (by omega))
  have e5 : N5 7 2 = M 7 2 := fr5 7 2 (by omega) (by omega)
  have p5 : N5 7 1 = (rKa (M 2) (M 7 2) (M 7 1) (M 7 3)).2.1 := by rw [f5 _ _ (by omega), p0]
  have w5 : N5 7 3 = (rKa (M 2) (M 7 2) (M 7 1) (M 7 3)).2.2 := by rw [f5 _ _ (by omega), w0]
  have num : kk = 0 ∨ kk = 1 ∨ kk = 2 → wc (kcs L xs) (d + 5) 35 [jR 7, jI 3] N5 (fun v M1 => wp (kcs L xs) (d + 6) 59 79 [some (jR 34), some (jR 7), some (jI i), none] (v.toList ++ [jI i, jR 36]) M1 Q) := fun hk => by
    rw [if_pos hk] at eb
    refine sp_num (m := 3) (d := d + 4) Hs S5 ⟨by omega, by omega⟩ (s59_79 Hs ?_)
    rw [g5, e5, p5, w5, ← eb]
    generalize hN6 : rd N5 7 (rKb (M 2) (M 7 2) (M 7 1) (M 7 3)).2.1 (rKb (M 2) (M 7 2) (M 7 1) (M 7 3)).2.2 = N6
    have f6 : ∀ b j, ¬ (b = 7 ∧ (j = 1 ∨ j = 3)) → N6 b j = N5 b j := fun b j h => by rw [← hN6]; exact rd_ne h
    have S6 : sc_at N6 7 2 n := by rw [← hN6]; exact sc_at_rd Hs S5 ⟨by omega, by rw [e5]; exact b.2.1⟩ ⟨b.2.2.1, b.2.2.2.1⟩
    have p6 : N6 7 1 = (rKb (M 2) (M 7 2) (M 7 1) (M 7 3)).2.1 := by rw [← hN6]; exact rd_1 ..
    have w6 : N6 7 3 = (rKb (M 2) (M 7 2) (M 7 1) (M 7 3)).2.2 := by rw [← hN6]; exact rd_3 ..
    generalize hN7 : fx_up N6 36 i (rKb (M 2) (M 7 2) (M 7 1) (M 7 3)).1 = N7
    have f7 : ∀ b j, ¬ (b = 36 ∧ j = i) → N7 b j = N6 b j := fun b j h => by rw [← hN7]; exact fx_up_ne h
    have S7 : sc_at N7 7 2 n := by rw [← hN7]; exact sc_at_up S6 (by decide) (by omega)
    have fr7 : lnf i M N7 := fun b j h1 h2 => by rw [f7 b j (by omega), f6 b j h1, fr5 b j h1 h2]
    have z7 : cz N7 11 Z := cz_fr hz (fun b j h1 h2 => fr7 b j (by omega) (by omega))
    have g7 : N7 2 = M 2 := funext (fun j => fr7 2 j (by omega) (by omega))
    have e7 : N7 7 2 = M 7 2 := fr7 7 2 (by omega) (by omega)
    have v36' : N7 36 i = (rKb (M 2) (M 7 2) (M 7 1) (M 7 3)).1 := by rw [← hN7]; exact fx_up_self ..
    rw [show N6 35 i = kk by rw [f6 _ _ (by omega)]; exact v35]
    refine ⟨hi, hi, ⟨by omega, by omega⟩, fun hne => ?_, fun he => ?_⟩
    · rw [if_neg hne] at ec
      refine dn N7 S7 z7 fr7 ?_ ?_ ?_ v36' ?_ ?_ ?_
      · rw [f7 _ _ (by omega), p6, ec]
      · rw [f7 _ _ (by omega), w6, ec]
      · rw [f7 _ _ (by omega), f6 _ _ (by omega)]
        exact v35
      · rw [f7 _ _ (by omega), f6 _ _ (by omega), v37, ec]
      · rw [f7 _ _ (by omega), f6 _ _ (by omega), v38]
      · rw [f7 _ _ (by omega), f6 _ _ (by omega), v39]
    · rw [if_pos he] at ec
      have p7 : N7 7 1 = (rKb (M 2) (M 7 2) (M 7 1) (M 7 3)).2.1 := by rw [f7 _ _ (by omega), p6]
      have w7 : N7 7 3 = (rKb (M 2) (M 7 2) (M 7 1) (M 7 3)).2.2 := by rw [f7 _ _ (by omega), w6]
      have bT := rT_b (g := M 2) (e := M 7 2) (c := 32) (p := (rKb (M 2) (M 7 2) (M 7 1) (M 7 3)).2.1) (w := (rKb (M 2) (M 7 2) (M 7 1) (M 7 3)).2.2) b.2.1
      refine sp_take (d := d + 4) Hs S7 ⟨by omega, by omega⟩ (s59_96 Hs ?_)
      rw [g7, e7, p7, w7]
      have S8 : sc_at (rd N7 7 (rT (M 2) (M 7 2) 32 (rKb (M 2) (M 7 2) (M 7 1) (M 7 3)).2.1 (rKb (M 2) (M 7 2) (M 7 1) (M 7 3)).2.2).1 (rT (M 2) (M 7 2) 32 (rKb (M 2) (M 7 2) (M 7 1) (M 7 3)).2.1 (rKb (M 2) (M 7 2) (M 7 1) (M 7 3)).2.2).2) 7 2 n := sc_at_rd Hs S7 ⟨by omega, by rw [e7]; exact bT.2.1⟩ bT.2.2
      have E8 := rd_g (p := (rT (M 2) (M 7 2) 32 (rKb (M 2) (M 7 2) (M 7 1) (M 7 3)).2.1 (rKb (M 2) (M 7 2) (M 7 1) (M 7 3)).2.2).1) (v := (rT (M 2) (M 7 2) 32 (rKb (M 2) (M 7 2) (M 7 1) (M 7 3)).2.1 (rKb (M 2) (M 7 2) (M 7 1) (M 7 3)).2.2).2) Hs S7
      refine sp_num (m := 3) (d := d + 4) Hs S8 ⟨by omega, by omega⟩ (s59_106 Hs ?_)
      rw [E8.1, E8.2, rd_1, rd_3, rd_rd, g7, e7]
      have ec' : rN (M 2) (M 7 2) 3 (rT (M 2) (M 7 2) 32 (rKb (M 2) (M 7 2) (M 7 1) (M 7 3)).2.1 (rKb (M 2) (M 7 2) (M 7 1) (M 7 3)).2.2).1 (rT (M 2) (M 7 2) 32 (rKb (M 2) (M 7 2) (M 7 1) (M 7 3)).2.1 (rKb (M 2) (M 7 2) (M 7 1) (M 7 3)).2.2).2 = rKc (M 2) (M 7 2) (M 7 1) (M 7 3) := ec.symm
      rw [ec']
      have S9 : sc_at (rd N7 7 (rKc (M 2) (M 7 2) (M 7 1) (M 7 3)).2.1 (rKc (M 2) (M 7 2) (M 7 1) (M 7 3)).2.2) 7 2 n := sc_at_rd Hs S7 ⟨by omega, by rw [e7]; exact c.2.1⟩ ⟨c.2.2.1, c.2.2.2.1⟩
      generalize hN9 : rd N7 7 (rKc (M 2) (M 7 2) (M 7 1) (M 7 3)).2.1 (rKc (M 2) (M 7 2) (M 7 1) (M 7 3)).2.2 = N9 at S9 ⊢
      have f9 : ∀ b j, ¬ (b = 7 ∧ (j = 1 ∨ j = 3)) → N9 b j = N7 b j := fun b j h => by rw [← hN9]; exact rd_ne h
      have p9 : N9 7 1 = (rKc (M 2) (M 7 2) (M 7 1) (M 7 3)).2.1 := by rw [← hN9]; exact rd_1 ..
      have w9 : N9 7 3 = (rKc (M 2) (M 7 2) (M 7 1) (M 7 3)).2.2 := by rw [← hN9]; exact rd_3 ..
      have frT : lnf i M (fx_up N9 37 i (rKc (M 2) (M 7 2) (M 7 1) (M 7 3)).1) := fun b j h1 h2 => by rw [fx_up_ne (by omega), f9 b j h1, fr7 b j h1 h2]
      refine ⟨hi, dn _ (sc_at_up S9 (by decide) (by omega)) (cz_fr hz (fun b j h1 h2 => frT b j (by omega) (by omega))) frT ?_ ?_ ?_ ?_ (fx_up_self ..) ?_ ?_⟩
      · rw [fx_up_na (by decide), p9]
      · rw [fx_up_na (by decide), w9]
      · rw [fx_up_na (by decide), f9 _ _ (by omega), f7 _ _ (by omega), f6 _ _ (by omega)]
        exact v35
      · rw [fx_up_na (by decide), f9 _ _ (by omega)]
        exact v36'
      · rw [fx_up_na (by decide), f9 _ _ (by omega), f7 _ _ (by omega), f6 _ _ (by omega), v38]
      · rw [fx_up_na (by decide), f9 _ _ (by omega), f7 _ _ (by omega), f6 _ _ (by omega), v39]
  refine ⟨hi, hi, hi, hi, hi, hi, ⟨by omega, by omega⟩, fun h => num (Or.inl h), fun n0 => ⟨hi, ⟨by omega, by omega⟩, fun h => num (Or.inr (Or.inl h)), fun n1 => ⟨hi, ⟨by omega, by omega⟩, fun n2 => ⟨hi, ⟨by omega, by omega⟩, fun _ => ?_, fun h => absurd h n2⟩, fun h => num (Or.inr (Or.inr h))⟩⟩⟩
  rw [if_neg (by omega)] at eb
  rw [if_neg n2] at ec
  refine dn N5 S5 z5 fr5 ?_ ?_ v35 ?_ ?_ v38 v39
  · rw [p5, ec, eb]
  · rw [w5, ec, eb]
  · rw [v36, eb]
  · rw [v37, ec]
/-- the class's lines -/
def cLnS (Z : PZ) (M : fx_M) (A : List LN) : Prop := M 34 0 = A.length ∧ ∀ (i : Nat) (x : LN), A[i]? = some x → cln Z M i x.1 x.2.1 x.2.2.1 x.2.2.2
/-- what reading a proof may change -/
def pff (M N : fx_M) : Prop := ∀ b j, ¬ (b = 7 ∧ (j = 1 ∨ j = 3)) → ¬ (35 ≤ b ∧ b ≤ 39) → ¬ (b = 34 ∧ j = 0) → N b j = M b j
theorem cln_fr {M N : fx_M} {i k f g : Int} {q : List LT} (h : cln Z M i k f g q) (hf : ∀ b : Nat, 35 ≤ b → b ≤ 39 → N b i = M b i) : cln Z N i k f g q := by
  obtain ⟨l1, l2, l3, l4, l5, l6⟩ := h
  exact ⟨by rw [hf _ (by omega) (by omega)]; exact l1, by rw [hf _ (by omega) (by omega)]; exact l2, fun h => by rw [hf _ (by omega) (by omega)]; exact l3 h, fun h => by rw [hf _ (by omega) (by omega)]; exact l4 h, by rw [hf _ (by omega) (by omega)]; exact l5, by rw [hf _ (by omega) (by omega)]; exact l6⟩
theorem rp_loop (ho : pz_ok Z) {n : Nat} : ∀ (f : Nat) (M : fx_M) (B : List LN), sc_at M 7 2 n → cz M 11 Z → M 7 3 = 0 → cLnS Z M B → M 7 2 - M 7 1 < f → B.length + (rPf (M 2) (M 7 2) f (M 7 1)).1.length ≤ 1600 → (∀ M', sc_at M' 7 2 n → M' 7 1 = (rPf (M 2) (M 7 2) f (M 7 1)).2.1 → M' 7 3 = (rPf (M 2) (M 7 2) f (M 7 1)).2.2 → cLnS Z M' (B ++ (rPf (M 2) (M 7 2) f (M 7 1)).1) → pff M M' → Q none M') → wp (kcs L xs) (d + 7) 58 9 [some (jR 34), some (jR 7), some (jI 1), some (jI (B.length : Nat))] [] M Q := by
  have Hs := fx_scn7
  intro f
  induction f with
  | zero =>
    intro M B hS hz h3 hc h4
    have := sc_p hS
    omega
  | succ f ih =>
    intro M B hS hz h3 hc h4 hlen K
    have hp := sc_p hS
    obtain ⟨a0, a1, a2, a3, a4, a5, a6, a7, a8⟩ := hS
    have hS : sc_at M 7 2 n := ⟨a0, a1, a2, a3, a4, a5, a6, a7, a8⟩
    have hB : B.length < 1600 := by
      rw [rPf] at hlen
      split at hlen
      · rw [List.length_cons] at hlen
        omega
      · rw [List.length_singleton] at hlen
        omega
    refine s58_9 Hs ?_
    rw [h3]
    refine ⟨⟨by omega, by omega⟩, fun h => by omega, fun _ => ⟨⟨by omega, by omega⟩, fun h => by omega, fun _ => ⟨⟨by omega, by omega⟩, fun h => absurd rfl h, fun _ => sp_readLine (d := d) ho ⟨by omega, by omega⟩ hS hz (fun M1 S1 p1 w1 c1 f1 => s58_33 Hs ?_)⟩⟩⟩
    rw [h3] at p1 w1 c1
    have g1 : M1 2 = M 2 := funext (fun j => f1 2 j (by omega) (by omega))
    have e1 : M1 7 2 = M 7 2 := f1 7 2 (by omega) (by omega)
    have h34 : M1 34 0 = (B.length : Nat) := by rw [f1 _ _ (by omega) (by omega)]; exact hc.1
    obtain ⟨s0, s1, s2, s3, s4, s5, s6, s7, s8⟩ := S1
    have S1 : sc_at M1 7 2 n := ⟨s0, s1, s2, s3, s4, s5, s6, s7, s8⟩
    rw [h34]
    have S2 : sc_at (fx_up M1 34 0 ((B.length : Nat) + 1)) 7 2 n := sc_at_up S1 (by decide) (by omega)
    have c2 : cLnS Z (fx_up M1 34 0 ((B.length : Nat) + 1)) (B ++ [(rLn (M 2) (M 7 2) (M 7 1) 0).1]) := by
      refine ⟨by rw [fx_up_self, List.length_append, List.length_singleton]; omega, fun i x hx => ?_⟩
      by_cases hi : i < B.length
      · rw [List.getElem?_append_left hi] at hx
        exact cln_fr (hc.2 i x hx) (fun b h1 h2 => by rw [fx_up_na (by omega), f1 _ _ (by omega) (by omega)])
      · rw [List.getElem?_append_right (by omega)] at hx
        have hi2 : i = B.length := by
          have := (List.getElem?_eq_some_iff.mp hx).1
          rw [List.length_singleton] at this
          omega
        subst hi2
        rw [Nat.sub_self] at hx
        have ex : (rLn (M 2) (M 7 2) (M 7 1) 0).1 = x := by simpa using hx
        subst ex
        exact cln_fr c1 (fun b h1 h2 => fx_up_na (by omega))
    have f2 : pff M (fx_up M1 34 0 ((B.length : Nat) + 1)) := fun b j h1 h2 h3 => by rw [fx_up_ne h3, f1 b j h1 (by omega)]
    have z2 : cz (fx_up M1 34 0 ((B.length : Nat) + 1)) 11 Z := cz_fr hz (fun b j h1 h2 => f2 b j (by omega) (by omega) (by omega))
    refine ⟨⟨by omega, by omega⟩, ⟨by omega, by omega⟩, ?_⟩
    have lb : (((B ++ [(rLn (M 2) (M 7 2) (M 7 1) 0).1]).length : Nat) : Int) = (B.length : Int) + 1 := by rw [List.length_append, List.length_singleton]; omega
    by_cases hgo : (rLn (M 2) (M 7 2) (M 7 1) 0).2.2 = 0 ∧ (rLn (M 2) (M 7 2) (M 7 1) 0).2.1 < M 7 2
    · rw [rPf, if_pos hgo] at K hlen
      have up := rLn_up (g := M 2) hp.1 hgo.1
      rw [p1, e1, if_pos hgo.2]
      have g2 : (fx_up M1 34 0 ((B.length : Nat) + 1)) 2 = M 2 := by rw [← g1]; exact funext (fun j => fx_up_na (by decide))
      have e2 : (fx_up M1 34 0 ((B.length : Nat) + 1)) 7 2 = M 7 2 := by rw [← e1]; exact fx_up_na (by decide)
      have p2 : (fx_up M1 34 0 ((B.length : Nat) + 1)) 7 1 = (rLn (M 2) (M 7 2) (M 7 1) 0).2.1 := by rw [← p1]; exact fx_up_na (by decide)
      have tr : wp (kcs L xs) (d + 7) 58 9 [some (jR 34), some (jR 7), some (jI 1), some (jI ((((B ++ [(rLn (M 2) (M 7 2) (M 7 1) 0).1]).length : Nat)) : Int))] [] (fx_up M1 34 0 ((B.length : Nat) + 1)) Q := by
        refine ih _ (B ++ [(rLn (M 2) (M 7 2) (M 7 1) 0).1]) S2 z2 (by rw [fx_up_na (by decide), w1]; exact hgo.1) c2 (by rw [e2, p2]; omega) ?_ (fun M' S3 p3 w3 c3 f3 => K M' S3 ?_ ?_ ?_ (fun b j h1 h2 h3 => (f3 b j h1 h2 h3).trans (f2 b j h1 h2 h3)))
        · rw [g2, e2, p2, List.length_append, List.length_singleton]
          rw [List.length_cons] at hlen
          omega
        · rw [g2, e2, p2] at p3
          exact p3
        · rw [g2, e2, p2] at w3
          exact w3
        · rw [g2, e2, p2, List.append_assoc, List.singleton_append] at c3
          exact c3
      rw [lb] at tr
      exact tr
    · rw [rPf, if_neg hgo] at K
      have fin : Q none (fx_up M1 34 0 ((B.length : Nat) + 1)) := K _ S2 (by rw [fx_up_na (by decide)]; exact p1) (by rw [fx_up_na (by decide)]; exact w1) c2 f2
      refine s58_9 Hs ?_
      rw [fx_up_na (b := 7) (by decide), w1]
      refine ⟨⟨by omega, by omega⟩, fun _ => fin, fun _ => ⟨?_, fun _ => fin, fun hm => ⟨⟨by omega, by omega⟩, fun _ => fin, fun hw => absurd ⟨hw, ?_⟩ hgo⟩⟩⟩
      · split <;> exact ⟨by omega, by omega⟩
      · by_cases hlt : M1 7 1 < M1 7 2
        · rw [p1, e1] at hlt
          exact hlt
        · rw [if_neg hlt] at hm
          exact absurd rfl hm
/-- read: a proof, or nothing when something was wrong already -/
theorem sp_readProof (ho : pz_ok Z) {n : Nat} {M : fx_M} (hS : sc_at M 7 2 n) (hz : cz M 11 Z) (hlen : M 7 3 = 0 → (rPf (M 2) (M 7 2) ((M 7 2 - M 7 1).toNat + 1) (M 7 1)).1.length ≤ 1600) (K0 : M 7 3 ≠ 0 → Q none (fx_up M 34 0 0)) (K1 : M 7 3 = 0 → ∀ M', sc_at M' 7 2 n → M' 7 1 = (rPf (M 2) (M 7 2) ((M 7 2 - M 7 1).toNat + 1) (M 7 1)).2.1 → M' 7 3 = (rPf (M 2) (M 7 2) ((M 7 2 - M 7 1).toNat + 1) (M 7 1)).2.2 → cLnS Z M' (rPf (M 2) (M 7 2) ((M 7 2 - M 7 1).toNat + 1) (M 7 1)).1 → pff M M' → Q none M') : wc (kcs L xs) (d + 7) 58 [jR 34, jR 7] M Q := by
  have Hs := fx_scn7
  have hp := sc_p hS
  obtain ⟨a0, a1, a2, a3, a4, a5, a6, a7, a8⟩ := hS
  have hS : sc_at M 7 2 n := ⟨a0, a1, a2, a3, a4, a5, a6, a7, a8⟩
  refine s58 Hs ?_
  have n2 : ∀ (b : Nat) (j : Int), b ≠ 34 → (fx_up M 34 0 0) b j = M b j := fun b j h => fx_up_na h
  by_cases h3 : M 7 3 = 0
  · have g2 : (fx_up M 34 0 0) 2 = M 2 := funext (fun j => n2 2 j (by decide))
    refine rp_loop ho ((M 7 2 - M 7 1).toNat + 1) (fx_up M 34 0 0) [] (sc_at_up hS (by decide) (by omega)) (cz_fr hz (fun b j h1 h2 => n2 b j (by omega))) (by rw [n2 _ _ (by decide)]; exact h3) ⟨by rw [fx_up_self]; rfl, fun i x hx => by simp at hx⟩ (by rw [n2 _ _ (by decide), n2 _ _ (by decide)]; omega) ?_ (fun M' S p w c f => K1 h3 M' S ?_ ?_ ?_ (fun b j h1 h2 h4 => (f b j h1 h2 h4).trans (fx_up_ne h4)))
    · rw [g2, n2 _ _ (by decide), n2 _ _ (by decide), List.length_nil, Nat.zero_add]
      exact hlen h3
    · rw [g2, n2 _ _ (by decide), n2 _ _ (by decide)] at p
      exact p
    · rw [g2, n2 _ _ (by decide), n2 _ _ (by decide)] at w
      exact w
    · rw [g2, n2 _ _ (by decide), n2 _ _ (by decide), List.nil_append] at c
      exact c
  · refine s58_9 Hs ?_
    rw [n2 7 3 (by decide)]
    exact ⟨⟨by omega, by omega⟩, fun h => by omega, fun _ => ⟨⟨by omega, by omega⟩, fun h => by omega, fun _ => ⟨⟨by omega, by omega⟩, fun _ => K0 h3, fun h => absurd h h3⟩⟩⟩
end CRL
