/-! The reference's book: root, entries, fetching an entry, whether it can be read. -/
def mbk (M : fx_M) (g : Int → Int) : Prop := ∀ j, 0 ≤ j → j < 1024 → M 188 j = g j
def bRg (g : Int → Int) : Prop := g 0 = 1 ∨ g 0 = 2
theorem bRg_e {g : Int → Int} (h : bRg g) : 32 * g 0 = bRt g := by
  unfold bRt
  rcases h with h | h
  · rw [h, if_neg (by decide)]
    rfl
  · rw [h, if_pos rfl]
    rfl
/-- what fetching leaves: the text lies ahead in the request -/
def ftc (g : Int → Int) (e : Int) (M M' : fx_M) : Prop := (∀ b j, ¬ (b = 133 ∧ (j = 3 ∨ j = 7)) → b ≠ 135 → M' b j = M b j) ∧ M' 133 3 = bTo g e - bFr g e ∧ M' 133 7 = 0 ∧ ∀ j, 0 ≤ j → j < bTo g e - bFr g e → M' 135 j = g (bFr g e + j)
section BKM
variable {kc : List va_E} {d : Nat} {Q : Option fx_V → fx_M → Prop} {M : fx_M} {g : Int → Int} {e : Int} {Z : PZ}
theorem sp_rootByte (hg : mbk M g) (hr : bRg g) {x : Int} (hx : 0 ≤ x ∧ x < 32) (K : Q (some (jI (g (bRt g + x)))) M) : wc kc (d + 1) 342 [jR 133, jI x] M Q := by
  have h := bRt_b (g := g)
  have h2 := bRg_e hr
  refine s342 ?_
  rw [hg 0 (by omega) (by omega), h2, hg _ (by omega) (by omega)]
  exact ⟨⟨by omega, by omega⟩, K⟩
theorem sp_mentries (hg : mbk M g) (hr : bRg g) (K : Q (some (jI (g (bRt g)))) M) : wc kc (d + 2) 341 [jR 133] M Q := by
  refine s341 (sp_rootByte hg hr ⟨by omega, by omega⟩ (s341_5 ?_))
  rw [Int.add_zero]
  exact K
theorem sp_mfirst (hg : mbk M g) (hr : bRg g) (he : 0 ≤ e ∧ e < 15) (K : Q (some (jI (bCh g e))) M) : wc kc (d + 2) 344 [jR 133, jI e] M Q := by
  refine s344 (sp_rootByte hg hr ⟨by omega, by omega⟩ (s344_9 ?_))
  rw [← Int.add_assoc]
  exact K
theorem sp_mpages (hg : mbk M g) (hr : bRg g) (he : 0 ≤ e ∧ e < 15) (K : Q (some (jI (bPg g e))) M) : wc kc (d + 2) 345 [jR 133, jI e] M Q := by
  refine s345 (sp_rootByte hg hr ⟨by omega, by omega⟩ (s345_9 ?_))
  rw [← Int.add_assoc]
  exact K
theorem sp_fetch (hg : mbk M g) (hb : bk_b g) (hr : bRg g) (he : 0 ≤ e ∧ e < 15) (hh : bHd g e) (K0 : ¬ bTo g e ≤ 32 * bCh g e + 32 * bPg g e → Q (some (jI 0)) M) (K1 : bTo g e ≤ 32 * bCh g e + 32 * bPg g e → ∀ M', ftc g e M M' → Q (some (jI 1)) M') : wc kc (d + 3) 343 [jR 133, jI e] M Q := by
  obtain ⟨h3, h1, h32, hn1, hn8, hlt⟩ := hh
  have ef : bFr g e = 32 * bCh g e + g (32 * bCh g e) + 3 := rfl
  have f1 := hb (bFr g e - 2) (by omega) (by omega)
  have f2 := hb (bFr g e - 1) (by omega) (by omega)
  have et : bTo g e = bFr g e + g (bFr g e - 2) + 256 * g (bFr g e - 1) := rfl
  refine s343 (sp_mfirst hg hr he (s343_7 (sp_mpages hg hr he (s343_17 ?_))))
  rw [hg (32 * bCh g e) (by omega) (by omega), show 32 * bCh g e + 1 + g (32 * bCh g e) + 2 = bFr g e by omega, hg (bFr g e - 2) (by omega) (by omega), hg (bFr g e - 1) (by omega) (by omega)]
  refine ⟨⟨by omega, by omega⟩, ⟨⟨by omega, by omega⟩, ⟨by omega, by omega⟩⟩, fun hle => ⟨⟨by omega, by omega⟩, ⟨by omega, by omega⟩, ⟨⟨by omega, by omega⟩, ⟨by omega, by omega⟩⟩, fun hle2 => ?_, fun hgt => K0 (by omega)⟩, fun h => by omega⟩
  have z : ∀ (u i : Nat) (N : fx_M), (i : Int) + u = bTo g e - bFr g e → (∀ b j, b ≠ 135 → N b j = M b j) → (∀ j, 0 ≤ j → j < (i : Int) → N 135 j = g (bFr g e + j)) → wp kc (d + 3) 343 81 [some (jR 133), none, none, none, some (jI (bFr g e)), some (jI (g (bFr g e - 2) + 256 * g (bFr g e - 1))), some (jI i)] [] N Q := by
    intro u
    induction u with
    | zero =>
      intro i N hi fR hS
      refine s343_81 ⟨⟨⟨by omega, by omega⟩, ⟨by omega, by omega⟩⟩, fun _ => K1 (by omega) _ ⟨fun b j h1 h2 => ?_, ?_, ?_, fun j j0 j1 => ?_⟩, fun h => by omega⟩
      · rw [fx_up_ne (by omega), fx_up_ne (by omega), fR b j h2]
      · rw [fx_up_nk (by decide), fx_up_self]
        omega
      · rw [fx_up_self]
      · rw [fx_up_na (by decide), fx_up_na (by decide)]
        exact hS j j0 (by omega)
    | succ u ih =>
      intro i N hi fR hS
      refine s343_81 ?_
      rw [fR 188 _ (by decide), hg (bFr g e + i) (by omega) (by omega)]
      have nx := ih (i + 1) (fx_up N 135 (i : Int) (g (bFr g e + i))) (by omega) (fun b j hb => by rw [fx_up_na hb]; exact fR b j hb) (fun j j0 j1 => by
        by_cases ej : j = (i : Int)
        · rw [ej, fx_up_self]
        · rw [fx_up_nk ej]
          exact hS j j0 (by omega))
      rw [show ((i + 1 : Nat) : Int) = (i : Int) + 1 by omega] at nx
      exact ⟨⟨⟨by omega, by omega⟩, ⟨by omega, by omega⟩⟩, fun h => by omega, fun _ => ⟨⟨by omega, by omega⟩, ⟨by omega, by omega⟩, nx⟩⟩
  exact z (bTo g e - bFr g e).toNat 0 M (by omega) (fun _ _ _ => rfl) (fun j j0 j1 => by omega)
/-- reading what was fetched -/
theorem ftc_text {M' : fx_M} (hf : ftc g e M M') (hle : bFr g e ≤ bTo g e) {u : Int} (hu : 0 ≤ u) : (mText u (M' 135) (M' 133 3) (M' 133 7) Z).2.1 = (bTx g e).2.1 ∧ bFr g e + (mText u (M' 135) (M' 133 3) (M' 133 7) Z).1 = (bTx g e).1 ∧ (mText u (M' 135) (M' 133 3) (M' 133 7) Z).2.2.1 = (bTx g e).2.2.1 ∧ (mText u (M' 135) (M' 133 3) (M' 133 7) Z).2.2.2 = (rText g (bTo g e) (bFr g e) 0 0 Z).2.2.2 := by
  obtain ⟨_, f3, f7, f135⟩ := hf
  have H : sftd g (M' 135) (bFr g e) (bTo g e - bFr g e) := fun j j0 j1 => (f135 j j0 j1).symm
  have s := sh_Text H (p := 0) (w := 0) (rf := 0) (Z := Z) (by omega) (by omega)
  rw [show bFr g e + (bTo g e - bFr g e) = bTo g e by omega, Int.add_zero] at s
  have hpw := bTx_pw (g := g) (e := e) (Z := Z)
  rw [s] at hpw
  rw [mText_eq hu, f3, f7, s]
  exact ⟨hpw.2.1, hpw.1, hpw.2.2, rfl⟩
theorem sp_isEntry (hg : mbk M g) (hb : bk_b g) (hr : bRg g) (he : 0 ≤ e ∧ e < 15) (K0 : ¬ bEn g e → ∀ M', (∀ b j, ¬ (b = 133 ∧ (j = 3 ∨ (7 ≤ j ∧ j ≤ 23))) → b ≠ 135 → b ≠ 137 → ¬ ucell 1 b j → M' b j = M b j) → Q (some (jI 0)) M') (K1 : bEn g e → ∀ M', (∀ b j, ¬ (b = 133 ∧ (j = 3 ∨ (7 ≤ j ∧ j ≤ 23))) → b ≠ 135 → b ≠ 137 → ¬ ucell 1 b j → M' b j = M b j) → Q (some (jI 1)) M') : wc kc (d + 9) 363 [jR 133, jI e] M Q := by
  have hcb := bCh_b hb he
  have no : ¬ bEn g e → Q (some (jI 0)) M := fun hn => K0 hn M (fun _ _ _ _ _ _ => rfl)
  refine s363 (sp_mfirst (d := d + 6) hg hr he (s363_5 (sp_mpages (d := d + 6) hg hr he (s363_11 ?_))))
  refine ⟨⟨by omega, by omega⟩, fun h => no (fun x => by have := x.1.1; omega), fun h3 => ⟨⟨by omega, by omega⟩, fun h => no (fun x => by have := x.1.2.1; omega), fun h1 => ⟨⟨by omega, by omega⟩, fun h32 => ?_, fun h => no (fun x => by have := x.1.2.2.1; omega)⟩⟩⟩
  have hn := hb (32 * bCh g e) (by omega) (by omega)
  rw [hg (32 * bCh g e) (by omega) (by omega)]
  refine ⟨⟨by omega, by omega⟩, ⟨by omega, by omega⟩, fun h => no (fun x => by have := x.1.2.2.2.1; omega), fun hn1 => ⟨⟨by omega, by omega⟩, fun hn8 => ?_, fun h => no (fun x => by have := x.1.2.2.2.2.1; omega)⟩⟩
  have z : ∀ (u : Nat) (i : Int), i + u = g (32 * bCh g e) + 1 → 1 ≤ i → (∀ k : Int, 1 ≤ k → k < i → 97 ≤ g (32 * bCh g e + k) ∧ g (32 * bCh g e + k) ≤ 122) → wp kc (d + 9) 363 61 [some (jR 133), some (jI e), some (jI (bCh g e)), none, some (jI (g (32 * bCh g e))), some (jI i)] [] M Q := by
    intro u
    induction u with
    | zero =>
      intro i hi hi1 hS
      have hh : bHd g e := ⟨h3, h1, h32, hn1, hn8, fun k k1 k2 => hS k k1 (by omega)⟩
      have ef : bFr g e = 32 * bCh g e + g (32 * bCh g e) + 3 := rfl
      have f1 := hb (bFr g e - 2) (by omega) (by omega)
      have f2 := hb (bFr g e - 1) (by omega) (by omega)
      have et : bTo g e = bFr g e + g (bFr g e - 2) + 256 * g (bFr g e - 1) := rfl
      refine s363_61 ⟨⟨⟨by omega, by omega⟩, ⟨by omega, by omega⟩⟩, fun _ => sp_fetch (d := d + 5) hg hb hr he hh (fun hgt => s363_115 ⟨⟨by omega, by omega⟩, fun _ => no (fun x => hgt x.2.1), fun h => absurd rfl h⟩) (fun hle N hf => s363_115 ⟨⟨by omega, by omega⟩, fun h => by omega, fun _ => ?_⟩), fun h => by omega⟩
      have hle2 : bFr g e ≤ bTo g e := by omega
      have ft := ftc_text (Z := z_new 1 1 1) hf hle2 (u := 1) (by omega)
      obtain ⟨fr, f3, f7, f135⟩ := hf
      have hm : ms_at (fx_up N 133 23 0) := by
        unfold ms_at
        rw [fx_up_nk (by decide), fx_up_nk (by decide), f3, f7]
        refine ⟨by omega, by omega, by omega, fun j j0 j1 => ?_⟩
        rw [fx_up_na (by decide), f135 j j0 j1]
        have := hb (bFr g e + j) (by omega) (by omega)
        omega
      have cf : ∀ M', mtf 1 N M' → ∀ b j, ¬ (b = 133 ∧ (j = 3 ∨ (7 ≤ j ∧ j ≤ 23))) → b ≠ 135 → b ≠ 137 → ¬ ucell 1 b j → M' b j = M b j := fun M' hm b j a1 a2 a3 a4 => by
        rw [hm b j (by omega) a3 (fun x => a4 x.2), fr b j (by omega) a2]
      refine sp_scanTextG (d := d) (Z := z_new 1 1 1) (u := 1) (by omega) (by omega) hm (fun hw M' m1 m2 m3 => ?_) (fun hw M' m1 m2 m3 => ?_)
      · have hms := m1.1
        have b1 := hms.1
        have b2 := hms.2.1
        have b3 := hms.2.2.1
        have q3 : M' 133 3 = bTo g e - bFr g e := by rw [m3 133 3 (by omega) (by omega) (by unfold ucell; omega), f3]
        have q23 := m1.2.1
        have r1 := m1.2.2.1
        have r2 := m1.2.2.2.1
        rw [q3] at b2 b3
        refine s363_123 ?_
        rw [q3, q23, m2]
        rw [m2] at b1 b2
        rw [ft.2.2.1] at r1 r2 ⊢
        rw [ft.1] at hw
        have hpl := ft.2.1
        generalize (mText 1 (N 135) (N 133 3) (N 133 7) (z_new 1 1 1)).1 = q at hpl b1 b2 ⊢
        refine ⟨⟨by omega, by omega⟩, fun _ => ⟨by omega, by omega⟩, fun _ => ⟨by omega, by omega⟩, fun _ _ => ⟨by omega, by omega⟩, ?_, ?_⟩
        · rw [if_neg (by decide)]
          split
          · split <;> decide
          · decide
        · rw [if_neg (by decide)]
          by_cases e1 : q = bTo g e - bFr g e
          · rw [if_pos e1]
            by_cases e2 : (bTx g e).2.2.1 = 0
            · rw [if_pos e2]
              exact K1 ⟨hh, hle, hw, by omega, e2⟩ M' (cf M' m3)
            · rw [if_neg e2]
              exact K0 (fun x => e2 x.2.2.2.2) M' (cf M' m3)
          · rw [if_neg e1]
            exact K0 (fun x => e1 (by have := x.2.2.2.1; omega)) M' (cf M' m3)
      · rw [ft.1] at hw
        have hms := m1
        have b1 := hms.1
        have b2 := hms.2.1
        have b3 := hms.2.2.1
        exact s363_123 ⟨⟨by omega, by omega⟩, fun h => absurd rfl h, fun h => absurd rfl h, fun h => absurd rfl h, by rw [if_pos rfl]; decide, K0 (fun x => by have := x.2.2.1; omega) M' (cf M' m3)⟩
    | succ u ih =>
      intro i hi hi1 hS
      have hx := hb (32 * bCh g e + i) (by omega) (by omega)
      refine s363_61 ?_
      rw [hg (32 * bCh g e + i) (by omega) (by omega)]
      refine ⟨⟨⟨by omega, by omega⟩, ⟨by omega, by omega⟩⟩, fun h => by omega, fun _ => ⟨⟨by omega, by omega⟩, ⟨by omega, by omega⟩, fun h => no (fun x => by have := (x.1.2.2.2.2.2 i hi1 (by omega)).1; omega), fun c1 => ⟨⟨by omega, by omega⟩, ⟨by omega, by omega⟩, fun c2 => ih (i + 1) (by omega) (by omega) (fun k k1 k2 => ?_), fun h => no (fun x => by have := (x.1.2.2.2.2.2 i hi1 (by omega)).2; omega)⟩⟩⟩
      by_cases ek : k = i
      · rw [ek]
        omega
      · exact hS k k1 (by omega)
  exact z (g (32 * bCh g e)).toNat 1 (by omega) (by omega) (fun k k1 k2 => by omega)
end BKM
