/-! WORD LISTS of the class beside those of the reference (by gen/emit_words.py) -/
/-- what binds a list of the class's words (in a literal bs) to the reference's words a .. a + n - 1: words, and the number of each -/
theorem ch_sw {g : Int → Int} {e p : Int} {bs : List Int32} {ws : List (List Int)} {pi : List Int} {n : Nat} {a : Int} (hb : bs.map Int32.toInt = jw ws) (hn : ws ≠ []) (h0 : 0 ≤ a) (h1 : a + n ≤ 57) (hc : (ws.all (fun w => decide (0 < w.length) && w.all (fun c => decide (c ≠ 32)) && (mws n a).contains w) && (mws n a).all (fun w => ws.contains w)) = true) (hpi : ∀ (j : Fin ws.length) (k : Fin n), ws[j] = wls (wrd (a + ((k : Nat) : Int))) → a + ((k : Nat) : Int) = pi.getD j 0) :
    (chs g e p bs).2.2 = (swl g e p n a 0 (-1)).2 ∧ (((chs g e p bs).1 = -1 ∧ (swl g e p n a 0 (-1)).1 = -1) ∨ (0 ≤ (chs g e p bs).1 ∧ (chs g e p bs).1 < ws.length ∧ (swl g e p n a 0 (-1)).1 = pi.getD (chs g e p bs).1.toNat 0 ∧ a ≤ (swl g e p n a 0 (-1)).1 ∧ (swl g e p n a 0 (-1)).1 < a + n ∧ (chs g e p bs).2.1 = wln (wrd (swl g e p n a 0 (-1)).1))) := by
  rw [Bool.and_eq_true, List.all_eq_true, List.all_eq_true] at hc
  obtain ⟨hc1, hc2⟩ := hc
  have k1 : ∀ w ∈ ws, 0 < w.length := fun w hw => by
    have := hc1 w hw
    simp only [Bool.and_eq_true, decide_eq_true_eq] at this
    exact this.1.1
  have k2 : ∀ w ∈ ws, ∀ c ∈ w, c ≠ 32 := fun w hw c hcw => by
    have := hc1 w hw
    simp only [Bool.and_eq_true, List.all_eq_true, decide_eq_true_eq] at this
    exact this.1.2 c hcw
  have k3 : ∀ w ∈ ws, w ∈ mws n a := fun w hw => by
    have := hc1 w hw
    simp only [Bool.and_eq_true] at this
    exact List.contains_iff_mem.mp this.2
  have k4 : ∀ w ∈ mws n a, w ∈ ws := fun w hw => List.contains_iff_mem.mp (hc2 w hw)
  have hE : chs g e p bs = chw g e p ws (-1) 0 0 0 := by
    unfold chs
    rw [hb, chl_words ws _ _ _ _ hn k2]
  have hml := ml_same (g := g) (e := e) (p := p) k3 k4
  have hmr := mr_same (g := g) (e := e) (p := p) k3 k4
  obtain ⟨c1, c2, c3, c4⟩ := chw_spec (g := g) (e := e) (p := p) ws (-1) 0 0 0 k1 (by omega) (by omega) (by omega)
  obtain ⟨s1, s2, s3⟩ := swl_spec (g := g) (e := e) (p := p) n a 0 (-1) h0 h1 (by omega) (by omega) (by omega)
  rw [if_pos (by omega)] at s2 s3
  rw [hE]
  refine ⟨by rw [c2, s1, hmr], ?_⟩
  by_cases hz : ml g e p ws = 0
  · exact Or.inl ⟨c3 (by omega), s2 (by omega)⟩
  · obtain ⟨j, w, j1, j2, j3, j4⟩ := c4 (by omega)
    obtain ⟨k, i1, i2, i3, i4⟩ := s3 (by omega)
    have hj := (List.getElem?_eq_some_iff.mp j1)
    obtain ⟨hjl, hjw⟩ := hj
    have hw : w = wls (wrd (a + (k : Int))) := cpl_eq j3 i3 (by omega)
    have hp := hpi ⟨j, hjl⟩ ⟨k, i1⟩ (by
      show ws[j] = _
      rw [hjw, hw])
    refine Or.inr ⟨by rw [j2]; omega, by rw [j2]; omega, ?_, by rw [i2]; omega, by rw [i2]; omega, ?_⟩
    · rw [i2, j2, hp]
      congr 1
      show j = (0 + (j : Int)).toNat
      omega
    · rw [c1, i2, ← wls_len, i4, ← hml]
      have hx : ∀ x : Nat, max (0 : Int) (x : Int) = x := fun x => by omega
      exact hx _
/-- the same of a reading: which, place, wrong -/
def rC_of (g : Int → Int) (e : Int) (n : Nat) (a p : Int) : Int × Int := ((swl g e p n a 0 (-1)).1, p + (if (swl g e p n a 0 (-1)).1 < 0 then (swl g e p n a 0 (-1)).2 else (wln (wrd (swl g e p n a 0 (-1)).1) : Int)))
def wsW : List (List Int) := [[110, 101, 119], [114, 117, 108, 101], [101, 97, 99, 104], [103, 105, 118, 101], [100, 114, 111, 112], [116, 101, 120, 116], [108, 111, 97, 100], [97, 110, 115, 119, 101, 114, 115], [109, 97, 110, 121], [112, 105, 99, 107], [99, 108, 97, 115, 104], [108, 101, 97, 115, 116], [109, 97, 107, 101], [119, 114, 111, 110, 103], [112, 114, 111, 118, 101], [99, 104, 101, 99, 107], [103, 114, 97, 100, 101], [104, 105, 110, 116], [115, 116, 101, 112], [115, 111, 108, 118, 101], [116, 101, 97, 99, 104], [102, 111, 114, 109], [118, 97, 114, 121], [99, 111, 118, 101, 114], [98, 97, 114, 114, 101, 100], [112, 101, 114, 115, 111, 110], [112, 117, 116], [117, 110, 100, 111], [114, 101, 100, 111], [115, 116, 97, 116, 101], [109, 97, 114, 107], [109, 97, 114, 107, 115], [99, 111, 110, 116, 101, 115, 116], [115, 101, 116], [115, 117, 98, 109, 105, 116], [116, 97, 98, 108, 101], [107, 101, 101, 112], [111, 112, 101, 110], [114, 101, 109, 111, 118, 101], [108, 105, 115, 116], [99, 117, 116], [109, 101, 110, 100], [101, 120, 112, 111, 114, 116], [105, 109, 112, 111, 114, 116], [102, 105, 110, 100]]
def piW : List Int := [0, 1, 2, 3, 4, 5, 6, 7, 8, 9, 17, 18, 19, 32, 10, 11, 12, 13, 14, 15, 16, 20, 21, 23, 24, 25, 26, 27, 28, 29, 30, 31, 33, 34, 35, 36, 37, 38, 39, 40, 41, 42, 43, 44, 22]
theorem swW {g : Int → Int} {e p : Int} : (chs g e p bsW).2.2 = (swl g e p 45 0 0 (-1)).2 ∧ (((chs g e p bsW).1 = -1 ∧ (swl g e p 45 0 0 (-1)).1 = -1) ∨ (0 ≤ (chs g e p bsW).1 ∧ (chs g e p bsW).1 < 45 ∧ (swl g e p 45 0 0 (-1)).1 = piW.getD (chs g e p bsW).1.toNat 0 ∧ 0 ≤ (swl g e p 45 0 0 (-1)).1 ∧ (swl g e p 45 0 0 (-1)).1 < 0 + 45 ∧ (chs g e p bsW).2.1 = wln (wrd (swl g e p 45 0 0 (-1)).1))) :=
  ch_sw (ws := wsW) (pi := piW) (n := 45) (a := 0) (by decide +kernel) (by decide) (by decide) (by decide) (by decide +kernel) (by decide +kernel)
def wsK : List (List Int) := [[97, 108, 105, 107, 101], [97, 112, 97, 114, 116], [99, 111, 117, 110, 116], [106, 111, 105, 110, 101, 100], [114, 105, 115, 101], [115, 101, 101, 110], [115, 117, 109], [117, 110, 108, 105, 107, 101]]
def bsK : List Int32 := [97, 108, 105, 107, 101, 32, 97, 112, 97, 114, 116, 32, 99, 111, 117, 110, 116, 32, 106, 111, 105, 110, 101, 100, 32, 114, 105, 115, 101, 32, 115, 101, 101, 110, 32, 115, 117, 109, 32, 117, 110, 108, 105, 107, 101]
def piK : List Int := [46, 51, 50, 47, 48, 52, 49, 45]
theorem swK {g : Int → Int} {e p : Int} : (chs g e p bsK).2.2 = (swl g e p 8 45 0 (-1)).2 ∧ (((chs g e p bsK).1 = -1 ∧ (swl g e p 8 45 0 (-1)).1 = -1) ∨ (0 ≤ (chs g e p bsK).1 ∧ (chs g e p bsK).1 < 8 ∧ (swl g e p 8 45 0 (-1)).1 = piK.getD (chs g e p bsK).1.toNat 0 ∧ 45 ≤ (swl g e p 8 45 0 (-1)).1 ∧ (swl g e p 8 45 0 (-1)).1 < 45 + 8 ∧ (chs g e p bsK).2.1 = wln (wrd (swl g e p 8 45 0 (-1)).1))) :=
  ch_sw (ws := wsK) (pi := piK) (n := 8) (a := 45) (by decide +kernel) (by decide) (by decide) (by decide) (by decide +kernel) (by decide +kernel)
theorem lt_K {L : Nat} {xs : Nat → Int32} : fx_str (kcs L xs) 1000005 bsK := lt_1000005
def wsSd : List (List Int) := [[114, 111, 119], [99, 111, 108, 117, 109, 110], [112, 97, 105, 114]]
def bsS : List Int32 := [114, 111, 119, 32, 99, 111, 108, 117, 109, 110, 32, 112, 97, 105, 114]
def piS : List Int := [53, 54, 55]
theorem swS {g : Int → Int} {e p : Int} : (chs g e p bsS).2.2 = (swl g e p 3 53 0 (-1)).2 ∧ (((chs g e p bsS).1 = -1 ∧ (swl g e p 3 53 0 (-1)).1 = -1) ∨ (0 ≤ (chs g e p bsS).1 ∧ (chs g e p bsS).1 < 3 ∧ (swl g e p 3 53 0 (-1)).1 = piS.getD (chs g e p bsS).1.toNat 0 ∧ 53 ≤ (swl g e p 3 53 0 (-1)).1 ∧ (swl g e p 3 53 0 (-1)).1 < 53 + 3 ∧ (chs g e p bsS).2.1 = wln (wrd (swl g e p 3 53 0 (-1)).1))) :=
  ch_sw (ws := wsSd) (pi := piS) (n := 3) (a := 53) (by decide +kernel) (by decide) (by decide) (by decide) (by decide +kernel) (by decide +kernel)
theorem lt_S {L : Nat} {xs : Nat → Int32} : fx_str (kcs L xs) 1000007 bsS := lt_1000007
def wsN : List (List Int) := [[110, 101, 119]]
def bsN : List Int32 := [110, 101, 119]
def piN : List Int := [0]
theorem swN {g : Int → Int} {e p : Int} : (chs g e p bsN).2.2 = (swl g e p 1 0 0 (-1)).2 ∧ (((chs g e p bsN).1 = -1 ∧ (swl g e p 1 0 0 (-1)).1 = -1) ∨ (0 ≤ (chs g e p bsN).1 ∧ (chs g e p bsN).1 < 1 ∧ (swl g e p 1 0 0 (-1)).1 = piN.getD (chs g e p bsN).1.toNat 0 ∧ 0 ≤ (swl g e p 1 0 0 (-1)).1 ∧ (swl g e p 1 0 0 (-1)).1 < 0 + 1 ∧ (chs g e p bsN).2.1 = wln (wrd (swl g e p 1 0 0 (-1)).1))) :=
  ch_sw (ws := wsN) (pi := piN) (n := 1) (a := 0) (by decide +kernel) (by decide) (by decide) (by decide) (by decide +kernel) (by decide +kernel)
theorem lt_N {L : Nat} {xs : Nat → Int32} : fx_str (kcs L xs) 1000009 bsN := lt_1000009
def wsP : List (List Int) := [[114, 117, 108, 101], [101, 97, 99, 104], [103, 105, 118, 101]]
def bsP : List Int32 := [114, 117, 108, 101, 32, 101, 97, 99, 104, 32, 103, 105, 118, 101]
def piP : List Int := [1, 2, 3]
theorem swP {g : Int → Int} {e p : Int} : (chs g e p bsP).2.2 = (swl g e p 3 1 0 (-1)).2 ∧ (((chs g e p bsP).1 = -1 ∧ (swl g e p 3 1 0 (-1)).1 = -1) ∨ (0 ≤ (chs g e p bsP).1 ∧ (chs g e p bsP).1 < 3 ∧ (swl g e p 3 1 0 (-1)).1 = piP.getD (chs g e p bsP).1.toNat 0 ∧ 1 ≤ (swl g e p 3 1 0 (-1)).1 ∧ (swl g e p 3 1 0 (-1)).1 < 1 + 3 ∧ (chs g e p bsP).2.1 = wln (wrd (swl g e p 3 1 0 (-1)).1))) :=
  ch_sw (ws := wsP) (pi := piP) (n := 3) (a := 1) (by decide +kernel) (by decide) (by decide) (by decide) (by decide +kernel) (by decide +kernel)
theorem lt_P {L : Nat} {xs : Nat → Int32} : fx_str (kcs L xs) 1000015 bsP := lt_1000015
def wsB : List (List Int) := [[98, 111, 111, 107]]
def bsB : List Int32 := [98, 111, 111, 107]
def piB : List Int := [56]
theorem swB {g : Int → Int} {e p : Int} : (chs g e p bsB).2.2 = (swl g e p 1 56 0 (-1)).2 ∧ (((chs g e p bsB).1 = -1 ∧ (swl g e p 1 56 0 (-1)).1 = -1) ∨ (0 ≤ (chs g e p bsB).1 ∧ (chs g e p bsB).1 < 1 ∧ (swl g e p 1 56 0 (-1)).1 = piB.getD (chs g e p bsB).1.toNat 0 ∧ 56 ≤ (swl g e p 1 56 0 (-1)).1 ∧ (swl g e p 1 56 0 (-1)).1 < 56 + 1 ∧ (chs g e p bsB).2.1 = wln (wrd (swl g e p 1 56 0 (-1)).1))) :=
  ch_sw (ws := wsB) (pi := piB) (n := 1) (a := 56) (by decide +kernel) (by decide) (by decide) (by decide) (by decide +kernel) (by decide +kernel)
theorem lt_B {L : Nat} {xs : Nat → Int32} : fx_str (kcs L xs) 1000029 bsB := lt_1000029
