/-! The book: its root, its entries; the class reads an entry. -/
def bk_b (g : Int → Int) : Prop := ∀ j, 0 ≤ j → j < 1024 → 0 ≤ g j ∧ g j ≤ 255
def bRt (g : Int → Int) : Int := if g 0 = 2 then 64 else 32
def bNE (g : Int → Int) : Int := if 15 < g (bRt g) then 15 else g (bRt g)
def bCh (g : Int → Int) (e : Int) : Int := g (bRt g + 1 + 2 * e)
def bPg (g : Int → Int) (e : Int) : Int := g (bRt g + 2 + 2 * e)
def bFr (g : Int → Int) (e : Int) : Int := 32 * bCh g e + g (32 * bCh g e) + 3
def bTo (g : Int → Int) (e : Int) : Int := bFr g e + g (bFr g e - 2) + 256 * g (bFr g e - 1)
def bTx (g : Int → Int) (e : Int) : Int × Int × Int × PZ := rText g (bTo g e) (bFr g e) 0 0 (z_new 1 1 1)
def bZ (g : Int → Int) (e : Int) : PZ := (bTx g e).2.2.2
/-- an entry's head: pages, name, room -/
def bHd (g : Int → Int) (e : Int) : Prop := 3 ≤ bCh g e ∧ 1 ≤ bPg g e ∧ bCh g e + bPg g e ≤ 32 ∧ 1 ≤ g (32 * bCh g e) ∧ g (32 * bCh g e) ≤ 8 ∧ (∀ i : Int, 1 ≤ i → i ≤ g (32 * bCh g e) → 97 ≤ g (32 * bCh g e + i) ∧ g (32 * bCh g e + i) ≤ 122)
/-- an entry that can be read -/
def bEn (g : Int → Int) (e : Int) : Prop := bHd g e ∧ bTo g e ≤ 32 * bCh g e + 32 * bPg g e ∧ (bTx g e).2.1 = 0 ∧ (bTx g e).1 = bTo g e ∧ (bTx g e).2.2.1 = 0
def rdf (p : Nat) (M M' : fx_M) : Prop := ∀ b j, b ≠ 129 → b ≠ 132 → ¬ (p ≤ b ∧ b ≤ p + 8) → M' b j = M b j
theorem scn129 : fx_scn 129 := by
  unfold fx_scn
  decide
theorem fa126 : fx_a 126 = some (1, 1024) := by
  unfold fx_a
  rfl
theorem bRt_b {g : Int → Int} : bRt g = 32 ∨ bRt g = 64 := by
  unfold bRt
  split
  · exact Or.inr rfl
  · exact Or.inl rfl
theorem bCh_b {g : Int → Int} (hb : bk_b g) {e : Int} (he : 0 ≤ e ∧ e < 15) : 0 ≤ bCh g e ∧ bCh g e ≤ 255 ∧ 0 ≤ bPg g e ∧ bPg g e ≤ 255 := by
  have h := bRt_b (g := g)
  have h1 := hb (bRt g + 1 + 2 * e) (by omega) (by omega)
  have h2 := hb (bRt g + 2 + 2 * e) (by omega) (by omega)
  exact ⟨h1.1, h1.2, h2⟩
theorem bTx_pw {g : Int → Int} {e : Int} {Z : PZ} : (rText g (bTo g e) (bFr g e) 0 0 Z).1 = (bTx g e).1 ∧ (rText g (bTo g e) (bFr g e) 0 0 Z).2.1 = (bTx g e).2.1 ∧ (rText g (bTo g e) (bFr g e) 0 0 Z).2.2.1 = (bTx g e).2.2.1 := by
  have h1 := mText_pw (u := 0) (g := g) (e := bTo g e) (p := bFr g e) (rf := 0) (Z := Z) (Z' := Z)
  have h2 := mText_pw (u := 0) (g := g) (e := bTo g e) (p := bFr g e) (rf := 0) (Z := Z) (Z' := z_new 1 1 1)
  exact ⟨h1.1.symm.trans h2.1, h1.2.symm.trans h2.2, rText_Z.1⟩
theorem bTx_Z {g : Int → Int} {e : Int} {Z : PZ} (h1 : (bTx g e).2.1 = 0) (h2 : (bTx g e).2.2.1 = 0) : (rText g (bTo g e) (bFr g e) 0 0 Z).2.2.2 = bZ g e := by
  have h := bTx_pw (g := g) (e := e) (Z := Z)
  exact rText_Z.2 (h.2.1.trans h1) (h.2.2.trans h2)
section BKR
variable {L : Nat} {xs : Nat → Int32} {kc : List va_E} {d p : Nat} {Q : Option fx_V → fx_M → Prop} {M : fx_M} {g : Int → Int} {e : Int} {Z : PZ}
theorem sp_root (hg : M 126 = g) (hb : bk_b g) (K : Q (some (jI (bRt g))) M) : wc kc (d + 1) 180 [jR 125] M Q := by
  have h0 := hb 0 (by omega) (by omega)
  refine s180 ?_
  rw [hg]
  exact ⟨⟨by omega, by omega⟩, K⟩
theorem sp_entries (hg : M 126 = g) (hb : bk_b g) (K : Q (some (jI (bNE g))) M) : wc kc (d + 2) 179 [jR 125] M Q := by
  have h := bRt_b (g := g)
  have h0 := hb (bRt g) (by omega) (by omega)
  refine s179 (sp_root hg hb (s179_8 ?_))
  rw [hg]
  exact ⟨⟨by omega, by omega⟩, ⟨by omega, by omega⟩, K⟩
theorem sp_chainOf (hg : M 126 = g) (hb : bk_b g) (he : 0 ≤ e ∧ e < 15) (K : Q (some (jI (bCh g e))) M) : wc kc (d + 2) 181 [jR 125, jI e] M Q := by
  have h := bRt_b (g := g)
  refine s181 (sp_root hg hb (s181_8 ?_))
  rw [hg]
  exact ⟨⟨by omega, by omega⟩, K⟩
theorem sp_pagesOf (hg : M 126 = g) (hb : bk_b g) (he : 0 ≤ e ∧ e < 15) (K : Q (some (jI (bPg g e))) M) : wc kc (d + 2) 183 [jR 125, jI e] M Q := by
  have h := bRt_b (g := g)
  refine s183 (sp_root hg hb (s183_8 ?_))
  rw [hg]
  exact ⟨⟨by omega, by omega⟩, K⟩
/-- the text of an entry -/
theorem rd_text (Hp : fx_puz p) (hz : cz M p Z) (ho : pz_ok Z) (hg : M 126 = g) (hb : bk_b g) (hh : bHd g e) (hto : bTo g e ≤ 32 * bCh g e + 32 * bPg g e) (hft : bFr g e ≤ bTo g e) (hf0 : 0 ≤ bFr g e) (K0 : ¬ bEn g e → ∀ M' Y, cz M' p Y → pz_ok Y → rdf p M M' → Q (some (jI 0)) M') (K1 : bEn g e → ∀ M', cz M' p (bZ g e) → pz_ok (bZ g e) → rdf p M M' → Q (some (jI 1)) M') : wc (kcs L xs) (d + 6) 18 [jR 129, jR 126, jI (bFr g e), jI (bTo g e)] M (fun v M1 => wp (kcs L xs) (d + 7) 182 166 [some (jR 125), none, some (jR p), none, none, none, none, none, some (jI (bTo g e))] (v.toList ++ []) M1 Q) := by
  have hp8 : p + 8 < 125 := by
    unfold fx_puz at Hp
    revert Hp
    simp
    omega
  have h3 := hh.2.2.1
  refine s18 (d := d + 5) scn129 fa126 (by omega) ⟨⟨by omega, by omega⟩, ⟨⟨by omega, by omega⟩, ⟨by omega, by omega⟩⟩, s182_166 Hp ?_⟩
  rw [if_neg (by omega), if_neg (by omega)]
  generalize hN : fx_up (fx_up (fx_up (fx_up (fx_up M 129 0 ((126 : Nat) : Int)) 129 1 (bFr g e)) 129 2 (bTo g e)) 129 3 0) 129 4 ((1000001 : Nat) : Int) = N
  have n0 : N 129 0 = ((126 : Nat) : Int) := by rw [← hN, fx_up_nk (by decide), fx_up_nk (by decide), fx_up_nk (by decide), fx_up_nk (by decide), fx_up_self]
  have n1 : N 129 1 = bFr g e := by rw [← hN, fx_up_nk (by decide), fx_up_nk (by decide), fx_up_nk (by decide), fx_up_self]
  have n2 : N 129 2 = bTo g e := by rw [← hN, fx_up_nk (by decide), fx_up_nk (by decide), fx_up_self]
  have n3 : N 129 3 = 0 := by rw [← hN, fx_up_nk (by decide), fx_up_self]
  have n4 : N 129 4 = ((1000001 : Nat) : Int) := by rw [← hN, fx_up_self]
  have nf : ∀ b j, b ≠ 129 → N b j = M b j := fun b j hb => by rw [← hN, fx_up_na hb, fx_up_na hb, fx_up_na hb, fx_up_na hb, fx_up_na hb]
  have ng : N 126 = g := by
    funext j
    rw [nf 126 j (by decide), hg]
  have hpw := bTx_pw (g := g) (e := e) (Z := Z)
  refine sp_text (Z := Z) (rf := 0) (n := 1024) (a := 126) scn129 Hp (by decide) (by omega) ⟨⟨n0, fa126, by omega, by omega, by omega, by omega, by omega, by omega, fun j h1 h2 => ?_⟩, by omega, ?_, cz_fr hz (fun b j h1 h2 => nf b j (by omega)), ho⟩ (fun M' m1 m2 m3 m4 => s182_174 Hp ?_)
  · rw [ng]
    have := hb j h1 (by omega)
    omega
  · rw [n4, Int.toNat_natCast]
    exact Or.inl ⟨rfl, Or.inr rfl⟩
  · rw [ng, n1, n2, n3] at m1 m2 m3
    have fr : rdf p M M' := fun b j h1 h2 h3 => by rw [m4.1 b j h1 h2 h3, nf b j h1]
    have s1 := m1.1
    have b1 := s1.2.2.2.1
    have b2 := s1.2.2.2.2.1
    have b3 := s1.2.2.2.2.2.1
    have b4 := s1.2.2.2.2.2.2.1
    have b5 := s1.2.2.2.2.2.2.2.1
    refine ⟨⟨by omega, by omega⟩, fun hne => K0 (fun x => hne ?_) M' _ m1.2.2.2.1 m1.2.2.2.2 fr, fun hw => ⟨⟨⟨by omega, by omega⟩, ⟨by omega, by omega⟩⟩, fun hne => K0 (fun x => hne ?_) M' _ m1.2.2.2.1 m1.2.2.2.2 fr, fun hpl => ⟨rfa_lit m1.2.2.1, sp_rfEmpty (d := d + 5) m1.2.2.1 ?_⟩⟩⟩
    · rw [m3, hpw.2.1]
      exact x.2.2.1
    · rw [m2, hpw.1]
      exact x.2.2.2.1
    · rw [m3, hpw.2.1] at hw
      rw [m2, hpw.1] at hpl
      by_cases hr : (rText g (bTo g e) (bFr g e) 0 0 Z).2.2.1 = 0
      · rw [if_pos hr]
        refine s182_206 Hp ⟨⟨by omega, by omega⟩, by decide, ?_⟩
        rw [hpw.2.2] at hr
        have hZ := bTx_Z (Z := Z) hw hr
        have c1 := m1.2.2.2.1
        have c2 := m1.2.2.2.2
        rw [hZ] at c1 c2
        exact K1 ⟨hh, hto, hw, hpl, hr⟩ M' c1 c2 fr
      · rw [if_neg hr]
        refine s182_206 Hp ⟨⟨by omega, by omega⟩, by decide, ?_⟩
        exact K0 (fun x => hr (hpw.2.2.trans x.2.2.2.2)) M' _ m1.2.2.2.1 m1.2.2.2.2 fr
theorem sp_read (Hp : fx_puz p) (hz : cz M p Z) (ho : pz_ok Z) (hg : M 126 = g) (hb : bk_b g) (he : 0 ≤ e ∧ e < 15) (K0 : ¬ bEn g e → ∀ M' Y, cz M' p Y → pz_ok Y → rdf p M M' → Q (some (jI 0)) M') (K1 : bEn g e → ∀ M', cz M' p (bZ g e) → pz_ok (bZ g e) → rdf p M M' → Q (some (jI 1)) M') : wc (kcs L xs) (d + 7) 182 [jR 125, jI e, jR p] M Q := by
  have hcb := bCh_b hb he
  have no : ¬ bEn g e → Q (some (jI 0)) M := fun hn => K0 hn M Z hz ho (fun _ _ _ _ _ => rfl)
  refine s182 Hp (sp_chainOf (d := d + 4) hg hb he (s182_5 Hp (sp_pagesOf (d := d + 4) hg hb he (s182_11 Hp ?_))))
  rw [hg]
  refine ⟨⟨by omega, by omega⟩, fun h => no (fun x => by have := x.1.1; omega), fun h3 => ⟨⟨by omega, by omega⟩, fun h => no (fun x => by have := x.1.2.1; omega), fun h1 => ⟨⟨by omega, by omega⟩, fun h32 => ?_, fun h => no (fun x => by have := x.1.2.2.1; omega)⟩⟩⟩
  have hn := hb (32 * bCh g e) (by omega) (by omega)
  refine ⟨⟨by omega, by omega⟩, ⟨by omega, by omega⟩, fun h => no (fun x => by have := x.1.2.2.2.1; omega), fun hn1 => ⟨⟨by omega, by omega⟩, fun hn8 => ?_, fun h => no (fun x => by have := x.1.2.2.2.2.1; omega)⟩⟩
  have z : ∀ (u : Nat) (i : Int), i + u = g (32 * bCh g e) + 1 → 1 ≤ i → (∀ k : Int, 1 ≤ k → k < i → 97 ≤ g (32 * bCh g e + k) ∧ g (32 * bCh g e + k) ≤ 122) → wp (kcs L xs) (d + 7) 182 68 [some (jR 125), none, some (jR p), none, some (jI (bPg g e)), some (jI (32 * bCh g e)), some (jI (g (32 * bCh g e))), some (jI i), none] [] M Q := by
    intro u
    induction u with
    | zero =>
      intro i hi hi1 hS
      have hh : bHd g e := ⟨h3, h1, h32, hn1, hn8, fun k k1 k2 => hS k k1 (by omega)⟩
      have ef : 32 * bCh g e + g (32 * bCh g e) + 3 = bFr g e := rfl
      have f1 := hb (bFr g e - 2) (by omega) (by omega)
      have f2 := hb (bFr g e - 1) (by omega) (by omega)
      refine s182_68 Hp ?_
      rw [hg, ef]
      have et : bFr g e + g (bFr g e - 2) + 256 * g (bFr g e - 1) = bTo g e := rfl
      rw [et]
      refine ⟨⟨⟨by omega, by omega⟩, ⟨by omega, by omega⟩⟩, fun _ => ⟨⟨by omega, by omega⟩, ⟨by omega, by omega⟩, ⟨⟨by omega, by omega⟩, ⟨by omega, by omega⟩⟩, fun hle => rd_text Hp hz ho hg hb hh hle (by omega) (by omega) K0 K1, fun hgt => no (fun x => by have := x.2.1; omega)⟩, fun h => by omega⟩
    | succ u ih =>
      intro i hi hi1 hS
      have hx := hb (32 * bCh g e + i) (by omega) (by omega)
      refine s182_68 Hp ?_
      rw [hg]
      refine ⟨⟨⟨by omega, by omega⟩, ⟨by omega, by omega⟩⟩, fun h => by omega, fun _ => ⟨⟨by omega, by omega⟩, s41 (d := d + 5) ⟨⟨by omega, by omega⟩, fun _ => ⟨by omega, by omega⟩, ?_, s182_88 Hp ?_⟩⟩⟩
      · split
        · decide
        · split <;> decide
      · by_cases c1 : g (32 * bCh g e + i) < 97
        · rw [if_pos c1]
          exact ⟨⟨by omega, by omega⟩, fun h => absurd rfl h, fun _ => no (fun x => by have := (x.1.2.2.2.2.2 i hi1 (by omega)).1; omega)⟩
        · rw [if_neg c1]
          by_cases c2 : 122 < g (32 * bCh g e + i)
          · rw [if_pos c2]
            exact ⟨⟨by omega, by omega⟩, fun h => absurd rfl h, fun _ => no (fun x => by have := (x.1.2.2.2.2.2 i hi1 (by omega)).2; omega)⟩
          · rw [if_neg c2]
            refine ⟨⟨by omega, by omega⟩, fun _ => ih (i + 1) (by omega) (by omega) (fun k k1 k2 => ?_), fun h => by omega⟩
            by_cases ek : k = i
            · rw [ek]
              omega
            · exact hS k k1 (by omega)
  exact z (g (32 * bCh g e)).toNat 1 (by omega) (by omega) (fun k k1 k2 => by omega)
end BKR
