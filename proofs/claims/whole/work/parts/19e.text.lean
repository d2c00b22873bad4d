/-! TEXTS read: a whole text (the class). -/
/-- a text: place, wrong, refusal, puzzle -/
def rText (g : Int → Int) (e p w rf : Int) (Z : PZ) : Int × Int × Int × PZ :=
  if (rZ3 g e (rC g e bsN p w).2.1 (rC g e bsN p w).2.2).2.2 = 0 ∧ rf = 0 then
    rTx g e ((e - (rZ3 g e (rC g e bsN p w).2.1 (rC g e bsN p w).2.2).2.1).toNat + 1) (rZ3 g e (rC g e bsN p w).2.1 (rC g e bsN p w).2.2).2.1 (rZ3 g e (rC g e bsN p w).2.1 (rC g e bsN p w).2.2).2.2 (q_size Z (rZ1 g e (rC g e bsN p w).2.1 (rC g e bsN p w).2.2).1 (rZ2 g e (rC g e bsN p w).2.1 (rC g e bsN p w).2.2).1 (rZ3 g e (rC g e bsN p w).2.1 (rC g e bsN p w).2.2).1).1 (q_size Z (rZ1 g e (rC g e bsN p w).2.1 (rC g e bsN p w).2.2).1 (rZ2 g e (rC g e bsN p w).2.1 (rC g e bsN p w).2.2).1 (rZ3 g e (rC g e bsN p w).2.1 (rC g e bsN p w).2.2).1).2
  else rTx g e ((e - (rZ3 g e (rC g e bsN p w).2.1 (rC g e bsN p w).2.2).2.1).toNat + 1) (rZ3 g e (rC g e bsN p w).2.1 (rC g e bsN p w).2.2).2.1 (rZ3 g e (rC g e bsN p w).2.1 (rC g e bsN p w).2.2).2.2 rf Z
section TXN
variable {L : Nat} {xs : Nat → Int32} {d s p a n : Nat} {Q : Option fx_V → fx_M → Prop} {rf : Int} {Z : PZ} {M : fx_M}
/-- one size: a blank, a digit, into cells -/
theorem tx_size {N : fx_M} {i q w : Int} (Hs : fx_scn s) (hS : sc_at N s a n) (ha3 : a ≠ s + 3) (hi : 0 ≤ i ∧ i < 3) (h1 : N s 1 = q) (h3 : N s 3 = w) (K : wp (kcs L xs) (d + 2) 49 9 [some (jR s), some (jR p), some (jI (i + 1)), none] [] (rd (fx_up N (s + 3) i (rBN (N a) (N s 2) 1 q w).1) s (rBN (N a) (N s 2) 1 q w).2.1 (rBN (N a) (N s 2) 1 q w).2.2) Q) (Hp : fx_puz p) : wp (kcs L xs) (d + 2) 49 9 [some (jR s), some (jR p), some (jI i), none] [] N Q := by
  have hp := sc_p hS
  have ht := rT_b (g := N a) (e := N s 2) (c := 32) (p := N s 1) (w := N s 3) hp.1
  subst h1 h3
  refine s49_9 Hs Hp ⟨⟨by omega, by omega⟩, fun h => by omega, fun _ => sp_take Hs hS (by omega) (s49_20 Hs Hp ?_)⟩
  have hS' := sc_at_rd (p := (rT (N a) (N s 2) 32 (N s 1) (N s 3)).1) (w := (rT (N a) (N s 2) 32 (N s 1) (N s 3)).2) Hs hS (by omega) (by omega)
  have hg := rd_g (p := (rT (N a) (N s 2) 32 (N s 1) (N s 3)).1) (v := (rT (N a) (N s 2) 32 (N s 1) (N s 3)).2) Hs hS
  refine sp_num (m := 1) Hs hS' (by omega) ?_
  rw [hg.1, hg.2, rd_1, rd_3, rd_rd]
  refine s49_30 Hs Hp ⟨⟨by omega, by omega⟩, ?_⟩
  rw [up_rd (by omega)]
  exact K
theorem sp_text (Hs : fx_scn s) (Hp : fx_puz p) (ha3 : a ≠ s + 3) (hap : ¬ (p ≤ a ∧ a ≤ p + 8)) (h : tx_st M s p a n rf Z) (K : ∀ M', tx_st M' s p a n (rText (M a) (M s 2) (M s 1) (M s 3) rf Z).2.2.1 (rText (M a) (M s 2) (M s 1) (M s 3) rf Z).2.2.2 → M' s 1 = (rText (M a) (M s 2) (M s 1) (M s 3) rf Z).1 → M' s 3 = (rText (M a) (M s 2) (M s 1) (M s 3) rf Z).2.1 → tfr s p M M' → Q none M') : wc (kcs L xs) (d + 6) 49 [jR s, jR p] M Q := by
  have hS := h.1
  have hp := sc_p hS
  have ha := scn_arr Hs hS.2.1
  have hn5 : M s 2 ≤ n ∧ n ≤ 100000 := ⟨hS.2.2.2.2.2.1, hS.2.2.1⟩
  have h3b : 0 ≤ M s 3 ∧ M s 3 ≤ 1 := ⟨hS.2.2.2.2.2.2.1, hS.2.2.2.2.2.2.2.1⟩
  refine s49 Hs Hp (sp_chooseR Hs lt_N hS (s49_6 Hs Hp ?_))
  have hcb := rC_b (g := M a) (e := M s 2) (bs := bsN) (p := M s 1) (w := M s 3) hp.1
  unfold rText rZ3 rZ2 rZ1 at K
  generalize rC (M a) (M s 2) bsN (M s 1) (M s 3) = c at K hcb
  have e4 : ((10 ^ 1 : Nat) : Int) = 10 := rfl
  have hS0 := sc_at_rd (p := c.2.1) (w := c.2.2) Hs hS (by omega) (by omega)
  have hg0 := rd_g (p := c.2.1) (v := c.2.2) Hs hS
  have b1 := rBN_b (g := M a) (e := M s 2) (m := 1) (p := c.2.1) (w := c.2.2) (by omega) (by omega)
  refine tx_size (d := d + 4) (q := c.2.1) (w := c.2.2) Hs hS0 ha3 (by omega) (rd_1 _ _ _ _) (rd_3 _ _ _ _) ?_ Hp
  rw [hg0.1, hg0.2, up_rd (by omega), rd_rd]
  generalize rBN (M a) (M s 2) 1 c.2.1 c.2.2 = z1 at K b1
  have hS1 : sc_at (fx_up M (s + 3) 0 z1.1) s a n := sc_at_up hS (by omega) (by omega)
  have g1 : (fx_up M (s + 3) 0 z1.1) a = M a := by
    funext j
    exact fx_up_na ha3
  have g2 : (fx_up M (s + 3) 0 z1.1) s 2 = M s 2 := fx_up_na (by omega)
  have hS1' := sc_at_rd (p := z1.2.1) (w := z1.2.2) Hs hS1 (by omega) (by omega)
  have hg1 := rd_g (p := z1.2.1) (v := z1.2.2) Hs hS1
  have b2 := rBN_b (g := M a) (e := M s 2) (m := 1) (p := z1.2.1) (w := z1.2.2) (by omega) (by omega)
  refine tx_size (d := d + 4) (q := z1.2.1) (w := z1.2.2) Hs hS1' ha3 (by omega) (rd_1 _ _ _ _) (rd_3 _ _ _ _) ?_ Hp
  rw [hg1.1, hg1.2, g1, g2, up_rd (by omega), rd_rd]
  generalize rBN (M a) (M s 2) 1 z1.2.1 z1.2.2 = z2 at K b2
  have hS2 : sc_at (fx_up (fx_up M (s + 3) 0 z1.1) (s + 3) (0 + 1) z2.1) s a n := sc_at_up hS1 (by omega) (by omega)
  have k1 : (fx_up (fx_up M (s + 3) 0 z1.1) (s + 3) (0 + 1) z2.1) a = M a := by
    funext j
    rw [fx_up_na ha3, g1]
  have k2 : (fx_up (fx_up M (s + 3) 0 z1.1) (s + 3) (0 + 1) z2.1) s 2 = M s 2 := by rw [fx_up_na (by omega), g2]
  have hS2' := sc_at_rd (p := z2.2.1) (w := z2.2.2) Hs hS2 (by omega) (by omega)
  have hg2 := rd_g (p := z2.2.1) (v := z2.2.2) Hs hS2
  have b3 := rBN_b (g := M a) (e := M s 2) (m := 1) (p := z2.2.1) (w := z2.2.2) (by omega) (by omega)
  refine tx_size (d := d + 4) (q := z2.2.1) (w := z2.2.2) Hs hS2' ha3 (by omega) (rd_1 _ _ _ _) (rd_3 _ _ _ _) ?_ Hp
  rw [hg2.1, hg2.2, k1, k2, up_rd (by omega), rd_rd]
  generalize rBN (M a) (M s 2) 1 z2.2.1 z2.2.2 = z3 at K b3
  have rN : rfr s M (rd (fx_up (fx_up (fx_up M (s + 3) 0 z1.1) (s + 3) (0 + 1) z2.1) (s + 3) (0 + 1 + 1) z3.1) s z3.2.1 z3.2.2) := rfr_rd (rfr_cl (rfr_cl (rfr_cl (rfr_rf s M))))
  have c0 : (rd (fx_up (fx_up (fx_up M (s + 3) 0 z1.1) (s + 3) (0 + 1) z2.1) (s + 3) (0 + 1 + 1) z3.1) s z3.2.1 z3.2.2) (s + 3) 0 = z1.1 := by rw [rd_ne (by omega), fx_up_nk (by decide), fx_up_nk (by decide), fx_up_self]
  have c1 : (rd (fx_up (fx_up (fx_up M (s + 3) 0 z1.1) (s + 3) (0 + 1) z2.1) (s + 3) (0 + 1 + 1) z3.1) s z3.2.1 z3.2.2) (s + 3) 1 = z2.1 := by rw [rd_ne (by omega), fx_up_nk (by decide)]; exact fx_up_self _ _ _ _
  have c2 : (rd (fx_up (fx_up (fx_up M (s + 3) 0 z1.1) (s + 3) (0 + 1) z2.1) (s + 3) (0 + 1 + 1) z3.1) s z3.2.1 z3.2.2) (s + 3) 2 = z3.1 := by rw [rd_ne (by omega)]; exact fx_up_self _ _ _ _
  have n1 : (rd (fx_up (fx_up (fx_up M (s + 3) 0 z1.1) (s + 3) (0 + 1) z2.1) (s + 3) (0 + 1 + 1) z3.1) s z3.2.1 z3.2.2) s 1 = z3.2.1 := rd_1 _ _ _ _
  have n3 : (rd (fx_up (fx_up (fx_up M (s + 3) 0 z1.1) (s + 3) (0 + 1) z2.1) (s + 3) (0 + 1 + 1) z3.1) s z3.2.1 z3.2.2) s 3 = z3.2.2 := rd_3 _ _ _ _
  generalize rd (fx_up (fx_up (fx_up M (s + 3) 0 z1.1) (s + 3) (0 + 1) z2.1) (s + 3) (0 + 1 + 1) z3.1) s z3.2.1 z3.2.2 = N at rN c0 c1 c2 n1 n3
  have hN := tx_read Hs Hp ha3 h rN (by omega) (by omega)
  have n2 : N s 2 = M s 2 := rN s 2 (by omega) (by omega)
  have na : N a = M a := by
    funext j
    exact rN a j (by omega) ha3
  have go : ¬ (z3.2.2 = 0 ∧ rf = 0) → wp (kcs L xs) (d + 6) 49 85 [some (jR s), some (jR p), some (jI (N s 1)), none] [] N Q := by
    intro hn
    rw [if_neg hn] at K
    refine tx_loop (d := d) Hs Hp ha3 hap ((M s 2 - z3.2.1).toNat + 1) N (N s 1) rf Z hN (fun _ => Int.le_refl _) (by omega) (by omega) (by omega) ?_
    rw [na, n1, n2, n3]
    exact fun M' m1 m2 m3 m4 => K M' m1 m2 m3 (tfr_tr (rfr_tfr rN) m4)
  refine s49_9 Hs Hp ⟨⟨by omega, by omega⟩, fun _ => ⟨⟨by omega, by omega⟩, fun hw => go (by omega), fun hw => ⟨rfa_lit hN.2.2.1, sp_rfEmpty hN.2.2.1 ?_⟩⟩, fun h => by omega⟩
  by_cases hr0 : rf = 0
  · rw [if_pos hr0]
    refine s49_51 Hs Hp ⟨i01.2, fun h => by omega, fun _ => ?_⟩
    rw [c0, c1, c2]
    rw [if_pos ⟨by omega, hr0⟩] at K
    refine sp_renewQ Hp hN.2.2.2.1 hN.2.2.2.2 ⟨by omega, by omega⟩ ⟨by omega, by omega⟩ ⟨by omega, by omega⟩ (fun P b r1 r2 r3 r4 => s49_77 Hs Hp ?_)
    obtain ⟨t1, t2, t3, t4⟩ := tx_did (b := b) Hs Hp hap hN r1 r2 r3 r4
    have hps : P s 1 = N s 1 := r4 s 1 (scn_puz Hs Hp).1
    rw [hps]
    have e2P : (fx_up P s 4 ((b : Nat) : Int)) s 2 = M s 2 := by rw [t2.2.1, n2]
    have eaP : (fx_up P s 4 ((b : Nat) : Int)) a = M a := by
      funext j
      rw [t2.1 a j ha ha3 hap, na]
    refine tx_loop (d := d) Hs Hp ha3 hap ((M s 2 - z3.2.1).toNat + 1) _ (N s 1) _ _ t1 (fun _ => by omega) (by omega) (by omega) (by omega) ?_
    rw [eaP, e2P, t3, t4, n1, n3]
    exact fun M' m1 m2 m3 m4 => K M' m1 m2 m3 (tfr_tr (rfr_tfr rN) (tfr_tr t2 m4))
  · rw [if_neg hr0]
    exact s49_51 Hs Hp ⟨i01.1, fun _ => go (fun hx => hr0 hx.2), fun h => absurd rfl h⟩
end TXN
