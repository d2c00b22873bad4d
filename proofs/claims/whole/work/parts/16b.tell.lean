/-! SCAN: choose as a reader; names, digits, kinds, sides. -/
theorem chl_b {g : Int → Int} {e p : Int} : ∀ (cs : List Int) (j b l r i n k : Int), ch_ok e p j b l r i n k → -1 ≤ (chl g e p cs b l r i n k).1 ∧ (chl g e p cs b l r i n k).1 ≤ j + cs.length + 1 ∧ 0 ≤ (chl g e p cs b l r i n k).2.1 ∧ p + (chl g e p cs b l r i n k).2.1 ≤ e ∧ 0 ≤ (chl g e p cs b l r i n k).2.2 ∧ p + (chl g e p cs b l r i n k).2.2 ≤ e
  | [], j, b, l, r, i, n, k, h => by
    have h' := ch_ok_end h
    obtain ⟨g1, g2, g3, g4, g5, g6, g7, g8, g9, g10, g11, g12, g13, g14, g15⟩ := h'
    show -1 ≤ ch_b b l i n k ∧ ch_b b l i n k ≤ j + ([] : List Int).length + 1 ∧ 0 ≤ ch_l l n k ∧ p + ch_l l n k ≤ e ∧ 0 ≤ ch_r r k ∧ p + ch_r r k ≤ e
    simp only [List.length_nil]
    omega
  | c :: cs, j, b, l, r, i, n, k, h => by
    have hl : ((c :: cs).length : Int) = cs.length + 1 := by simp
    unfold chl
    split
    · have := chl_b (g := g) cs (j + 1) _ _ _ _ _ _ (ch_ok_end h)
      omega
    · have := chl_b (g := g) cs (j + 1) _ _ _ _ _ _ (ch_ok_chr (g := g) (c := c) h)
      omega
theorem chs_b {g : Int → Int} {e p : Int} {bs : List Int32} (h : p ≤ e) : -1 ≤ (chs g e p bs).1 ∧ (chs g e p bs).1 ≤ bs.length + 1 ∧ 0 ≤ (chs g e p bs).2.1 ∧ p + (chs g e p bs).2.1 ≤ e ∧ 0 ≤ (chs g e p bs).2.2 ∧ p + (chs g e p bs).2.2 ≤ e := by
  have := chl_b (g := g) (e := e) (p := p) (bs.map Int32.toInt) 0 (-1) 0 0 0 0 0 (by unfold ch_ok; omega)
  rw [List.length_map] at this
  unfold chs
  omega
/-- choose: which, place, wrong -/
def rC (g : Int → Int) (e : Int) (bs : List Int32) (p w : Int) : Int × Int × Int := if w = 0 then ((chs g e p bs).1, p + (if (chs g e p bs).1 < 0 then (chs g e p bs).2.2 else (chs g e p bs).2.1), if (chs g e p bs).1 < 0 then 1 else 0) else (-1, p, 1)
theorem rC_b {g : Int → Int} {e p w : Int} {bs : List Int32} (h : p ≤ e) : -1 ≤ (rC g e bs p w).1 ∧ (rC g e bs p w).1 ≤ bs.length + 1 ∧ p ≤ (rC g e bs p w).2.1 ∧ (rC g e bs p w).2.1 ≤ e ∧ 0 ≤ (rC g e bs p w).2.2 ∧ (rC g e bs p w).2.2 ≤ 1 := by
  have := chs_b (g := g) (bs := bs) h
  unfold rC
  split
  · dsimp only
    (repeat' split) <;> omega
  · dsimp only
    omega
/-- letters from p on, at most k -/
def rL (g : Int → Int) (e : Int) : Nat → Int → Nat
  | 0, _ => 0
  | k + 1, p => if p < e ∧ 97 ≤ g p ∧ g p ≤ 122 then rL g e k (p + 1) + 1 else 0
theorem rL_b (g : Int → Int) (e : Int) : ∀ (k : Nat) (p : Int), p ≤ e → rL g e k p ≤ k ∧ p + rL g e k p ≤ e
  | 0, p, h => by
    unfold rL
    omega
  | k + 1, p, h => by
    unfold rL
    split
    · have := rL_b g e k (p + 1) (by omega)
      omega
    · omega
/-- digits from p on, at most k -/
def rDs (g : Int → Int) (e : Int) : Nat → Int → Nat
  | 0, _ => 0
  | k + 1, p => if p < e ∧ isD (g p) then rDs g e k (p + 1) + 1 else 0
theorem rDs_b (g : Int → Int) (e : Int) : ∀ (k : Nat) (p : Int), p ≤ e → rDs g e k p ≤ k ∧ p + rDs g e k p ≤ e
  | 0, p, h => by
    unfold rDs
    omega
  | k + 1, p, h => by
    unfold rDs
    split
    · have := rDs_b g e k (p + 1) (by omega)
      omega
    · omega
section SC3
variable {kc : List va_E} {d s a n w : Nat} {M : fx_M} {Q : Option fx_V → fx_M → Prop} {bs : List Int32}
theorem sp_chooseR (Hs : fx_scn s) (hw : fx_str kc w bs) (hS : sc_at M s a n) (K : Q (some (jI (rC (M a) (M s 2) bs (M s 1) (M s 3)).1)) (rd M s (rC (M a) (M s 2) bs (M s 1) (M s 3)).2.1 (rC (M a) (M s 2) bs (M s 1) (M s 3)).2.2)) : wc kc (d + 4) 20 [jR s, jR w] M Q := by
  by_cases h3 : M s 3 = 0
  · refine sp_choose Hs hw hS h3 ?_
    unfold rC at K
    rw [if_pos h3] at K
    exact K
  · obtain ⟨a0, a1, a2, a3, a4, a5, a6, a7, a8⟩ := hS
    refine sp_chooseW Hs hw (by omega) ?_
    unfold rC at K
    rw [if_neg h3] at K
    exact K
/-- a blank, then a number -/
def rBN (g : Int → Int) (e : Int) (m : Nat) (p w : Int) : Int × Int × Int := rN g e m (rT g e 32 p w).1 (rT g e 32 p w).2
theorem rBN_b {g : Int → Int} {e : Int} {m : Nat} {p w : Int} (hm : 1 ≤ m) (h : p ≤ e) : p ≤ (rBN g e m p w).2.1 ∧ (rBN g e m p w).2.1 ≤ e ∧ 0 ≤ (rBN g e m p w).2.2 ∧ (rBN g e m p w).2.2 ≤ 1 ∧ 0 ≤ (rBN g e m p w).1 ∧ (rBN g e m p w).1 < ((10 ^ m : Nat) : Int) := by
  have h1 := rT_b (g := g) (c := 32) (w := w) h
  have h2 := rN_b (g := g) (e := e) (m := m) (p := (rT g e 32 p w).1) (w := (rT g e 32 p w).2) hm (by omega)
  unfold rBN
  omega
theorem rd_g {p v : Int} (Hs : fx_scn s) (hS : sc_at M s a n) : (rd M s p v) a = M a ∧ (rd M s p v) s 2 = M s 2 := by
  obtain ⟨a0, a1, a2, a3, a4, a5, a6, a7, a8⟩ := hS
  have ha := scn_arr Hs a1
  exact ⟨by
    funext j
    exact rd_ne (by omega), rd_ne (by omega)⟩
theorem sc_p (hS : sc_at M s a n) : M s 1 ≤ M s 2 ∧ 0 ≤ M s 1 := by
  obtain ⟨a0, a1, a2, a3, a4, a5, a6, a7, a8⟩ := hS
  omega
theorem sp_takeNum {m : Nat} (Hs : fx_scn s) (hS : sc_at M s a n) (hm : 1 ≤ m ∧ m ≤ 8) (K : Q (some (jI (rBN (M a) (M s 2) m (M s 1) (M s 3)).1)) (rd M s (rBN (M a) (M s 2) m (M s 1) (M s 3)).2.1 (rBN (M a) (M s 2) m (M s 1) (M s 3)).2.2)) : wc kc (d + 1) 34 [jR s, jI 32] M (fun _ M1 => wc kc (d + 1) 35 [jR s, jI m] M1 Q) := by
  have hp := sc_p hS
  have hb := rT_b (g := M a) (c := 32) (w := M s 3) hp.1
  refine sp_take Hs hS (by omega) ?_
  have hS' := sc_at_rd (p := (rT (M a) (M s 2) 32 (M s 1) (M s 3)).1) (w := (rT (M a) (M s 2) 32 (M s 1) (M s 3)).2) Hs hS (by omega) (by omega)
  have hg := rd_g (p := (rT (M a) (M s 2) 32 (M s 1) (M s 3)).1) (v := (rT (M a) (M s 2) 32 (M s 1) (M s 3)).2) Hs hS
  refine sp_num Hs hS' hm ?_
  rw [hg.1, hg.2, rd_1, rd_3, rd_rd]
  exact K
/-- told number i -/
theorem sp_tellNumber {m : Nat} {i : Int} (Hs : fx_scn s) (hS : sc_at M s a n) (hm : 1 ≤ m ∧ m ≤ 8) (hi : 0 ≤ i ∧ i < 4) (K : Q none (fx_up (rd M s (rBN (M a) (M s 2) m (M s 1) (M s 3)).2.1 (rBN (M a) (M s 2) m (M s 1) (M s 3)).2.2) (s + 2) i (rBN (M a) (M s 2) m (M s 1) (M s 3)).1)) : wc kc (d + 2) 36 [jR s, jI i, jI m] M Q := by
  have hp := sc_p hS
  have hb := rT_b (g := M a) (c := 32) (w := M s 3) hp.1
  refine s36 Hs (sp_take Hs hS (by omega) (s36_6 Hs ?_))
  have hS' := sc_at_rd (p := (rT (M a) (M s 2) 32 (M s 1) (M s 3)).1) (w := (rT (M a) (M s 2) 32 (M s 1) (M s 3)).2) Hs hS (by omega) (by omega)
  have hg := rd_g (p := (rT (M a) (M s 2) 32 (M s 1) (M s 3)).1) (v := (rT (M a) (M s 2) 32 (M s 1) (M s 3)).2) Hs hS
  refine sp_num Hs hS' hm ?_
  rw [hg.1, hg.2, rd_1, rd_3, rd_rd]
  exact s36_16 Hs ⟨hi, K⟩
theorem sp_tellDigit {i : Int} (Hs : fx_scn s) (hS : sc_at M s a n) (hi : 0 ≤ i ∧ i < 4) (K : Q none (fx_up (rd M s (rBN (M a) (M s 2) 1 (M s 1) (M s 3)).2.1 (rBN (M a) (M s 2) 1 (M s 1) (M s 3)).2.2) (s + 2) i (rBN (M a) (M s 2) 1 (M s 1) (M s 3)).1)) : wc kc (d + 2) 33 [jR s, jI i] M Q := by
  have hp := sc_p hS
  have hb := rT_b (g := M a) (c := 32) (w := M s 3) hp.1
  refine s33 Hs (sp_take Hs hS (by omega) (s33_6 Hs ?_))
  have hS' := sc_at_rd (p := (rT (M a) (M s 2) 32 (M s 1) (M s 3)).1) (w := (rT (M a) (M s 2) 32 (M s 1) (M s 3)).2) Hs hS (by omega) (by omega)
  have hg := rd_g (p := (rT (M a) (M s 2) 32 (M s 1) (M s 3)).1) (v := (rT (M a) (M s 2) 32 (M s 1) (M s 3)).2) Hs hS
  refine sp_num (m := 1) Hs hS' (by omega) ?_
  rw [hg.1, hg.2, rd_1, rd_3, rd_rd]
  exact s33_16 Hs ⟨hi, K⟩
/-- a blank, then a digit or '-' (told as -1) -/
def rBS (g : Int → Int) (e p w : Int) : Int × Int × Int := if (rT g e 32 p w).2 = 0 ∧ (rT g e 32 p w).1 < e ∧ g (rT g e 32 p w).1 = 45 then (-1, (rT g e 32 p w).1 + 1, 0) else rN g e 1 (rT g e 32 p w).1 (rT g e 32 p w).2
theorem rBS_b {g : Int → Int} {e p w : Int} (h : p ≤ e) : p ≤ (rBS g e p w).2.1 ∧ (rBS g e p w).2.1 ≤ e ∧ 0 ≤ (rBS g e p w).2.2 ∧ (rBS g e p w).2.2 ≤ 1 ∧ -1 ≤ (rBS g e p w).1 ∧ (rBS g e p w).1 < 10 := by
  have h1 := rT_b (g := g) (c := 32) (w := w) h
  have h2 := rN_b (g := g) (e := e) (m := 1) (p := (rT g e 32 p w).1) (w := (rT g e 32 p w).2) (by omega) (by omega)
  unfold rBS
  split
  · dsimp only
    omega
  · have : ((10 ^ 1 : Nat) : Int) = 10 := rfl
    omega
theorem sp_tellSymbol {i : Int} (Hs : fx_scn s) (hS : sc_at M s a n) (hi : 0 ≤ i ∧ i < 4) (K : Q none (fx_up (rd M s (rBS (M a) (M s 2) (M s 1) (M s 3)).2.1 (rBS (M a) (M s 2) (M s 1) (M s 3)).2.2) (s + 2) i (rBS (M a) (M s 2) (M s 1) (M s 3)).1)) : wc kc (d + 2) 37 [jR s, jI i] M Q := by
  have hp := sc_p hS
  have hb := rT_b (g := M a) (c := 32) (w := M s 3) hp.1
  refine s37 Hs (sp_take Hs hS (by omega) (s37_6 Hs ?_))
  have hS' := sc_at_rd (p := (rT (M a) (M s 2) 32 (M s 1) (M s 3)).1) (w := (rT (M a) (M s 2) 32 (M s 1) (M s 3)).2) Hs hS (by omega) (by omega)
  have hg := rd_g (p := (rT (M a) (M s 2) 32 (M s 1) (M s 3)).1) (v := (rT (M a) (M s 2) 32 (M s 1) (M s 3)).2) Hs hS
  unfold rBS at K
  refine sp_ahead Hs hS' (by omega) (fun h1 h2 h3 => ?_) (fun h => ?_)
  · rw [rd_3] at h1
    rw [hg.1, rd_1] at h3
    rw [rd_1, hg.2] at h2
    rw [if_pos ⟨h1, h2, h3⟩] at K
    refine s37_12 Hs ⟨⟨by omega, by omega⟩, fun h => by omega, fun _ => ⟨hi, ?_⟩⟩
    rw [rd_p, rd_1, rd_3, rd_rd, h1]
    exact K
  · rw [rd_3, rd_1, hg.1, hg.2] at h
    rw [if_neg h] at K
    refine s37_12 Hs ⟨⟨by omega, by omega⟩, fun _ => ?_, fun h => absurd rfl h⟩
    refine sp_num (m := 1) Hs hS' (by omega) ?_
    rw [hg.1, hg.2, rd_1, rd_3, rd_rd]
    exact s37_45 Hs ⟨hi, K⟩
/-- side -/
theorem sp_side {L : Nat} {xs : Nat → Int32} {bs : List Int32} (hw : fx_str (kcs L xs) 1000007 bs) (Hs : fx_scn s) (hS : sc_at M s a n) (K : Q none (fx_up (rd M s (rC (M a) (M s 2) bs (rT (M a) (M s 2) 32 (M s 1) (M s 3)).1 (rT (M a) (M s 2) 32 (M s 1) (M s 3)).2).2.1 (rC (M a) (M s 2) bs (rT (M a) (M s 2) 32 (M s 1) (M s 3)).1 (rT (M a) (M s 2) 32 (M s 1) (M s 3)).2).2.2) s 10 (rC (M a) (M s 2) bs (rT (M a) (M s 2) 32 (M s 1) (M s 3)).1 (rT (M a) (M s 2) 32 (M s 1) (M s 3)).2).1)) : wc (kcs L xs) (d + 5) 48 [jR s] M Q := by
  have hp := sc_p hS
  have hb := rT_b (g := M a) (c := 32) (w := M s 3) hp.1
  refine s48 Hs (sp_take Hs hS (by omega) (s48_6 Hs ?_))
  have hS' := sc_at_rd (p := (rT (M a) (M s 2) 32 (M s 1) (M s 3)).1) (w := (rT (M a) (M s 2) 32 (M s 1) (M s 3)).2) Hs hS (by omega) (by omega)
  have hg := rd_g (p := (rT (M a) (M s 2) 32 (M s 1) (M s 3)).1) (v := (rT (M a) (M s 2) 32 (M s 1) (M s 3)).2) Hs hS
  refine sp_chooseR Hs hw hS' ?_
  rw [hg.1, hg.2, rd_1, rd_3, rd_rd]
  exact s48_13 Hs K
end SC3
