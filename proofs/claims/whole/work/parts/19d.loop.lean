/-! TEXTS read: the loop over the parts, and the whole text (the class). -/
theorem rBN_w0 {g : Int → Int} {e : Int} {m : Nat} {p w : Int} (h : (rBN g e m p w).2.2 = 0) : w = 0 := by
  unfold rBN rN at h
  split at h
  · next hc => exact (rT_0 hc.1).2.1
  · exact absurd h (show ¬ (1 : Int) = 0 by decide)
theorem rR_w0 {g : Int → Int} {e : Int} : ∀ {f : Nat} {b : Bool} {p w : Int}, (rR g e f b p w).2.2 = 0 → w = 0
  | 0, _, _, _, h => h
  | f + 1, b, p, w, h => by
    unfold rR at h
    split at h
    · next hc => exact hc.1
    · exact h
theorem rC_lt {g : Int → Int} {e : Int} {bs : List Int32} {p w N : Int} (hN : (chs g e p bs).1 < N) (h : (rC g e bs p w).2.2 = 0) : (rC g e bs p w).1 < N ∧ w = 0 := by
  unfold rC at *
  by_cases hw : w = 0
  · rw [if_pos hw]
    exact ⟨hN, hw⟩
  · rw [if_neg hw] at h
    exact absurd h (show ¬ (1 : Int) = 0 by decide)
theorem chK {g : Int → Int} {e p : Int} : (chs g e p bsK).1 < 8 := by
  rcases (@swK g e p).2 with h | h
  · omega
  · exact h.2.1
theorem chS {g : Int → Int} {e p : Int} : (chs g e p bsS).1 < 3 := by
  rcases (@swS g e p).2 with h | h
  · omega
  · exact h.2.1
theorem chP {g : Int → Int} {e p : Int} : (chs g e p bsP).1 < 3 := by
  rcases (@swP g e p).2 with h | h
  · omega
  · exact h.2.1
theorem rK_0 {g : Int → Int} {e p w : Int} (h : (rK g e bsK p w).2.2.2 = 0) : 0 ≤ (rK g e bsK p w).1 ∧ (rK g e bsK p w).1 < 8 ∧ w = 0 := by
  have key : (rC g e bsK (rT g e 32 p w).1 (rT g e 32 p w).2).2.2 = 0 → 0 ≤ (rC g e bsK (rT g e 32 p w).1 (rT g e 32 p w).2).1 ∧ (rC g e bsK (rT g e 32 p w).1 (rT g e 32 p w).2).1 < 8 ∧ w = 0 := fun h0 => by
    have h1 := rC_lt chK h0
    exact ⟨rC_o h0, h1.1, (rT_0 h1.2).2.1⟩
  unfold rK at *
  split at h
  · next hc =>
    rw [if_pos hc]
    exact key (rBN_w0 h)
  · next hc =>
    rw [if_neg hc]
    exact key h
theorem rSd_0 {g : Int → Int} {e p w : Int} (h : (rSd g e p w).2.2 = 0) : 0 ≤ (rSd g e p w).1 ∧ (rSd g e p w).1 < 3 := by
  unfold rSd at *
  exact ⟨rC_o h, (rC_lt chS h).1⟩
section TXM
variable {L : Nat} {xs : Nat → Int32} {d s p a n : Nat} {Q : Option fx_V → fx_M → Prop}
theorem tx_loop (Hs : fx_scn s) (Hp : fx_puz p) (ha3 : a ≠ s + 3) (hap : ¬ (p ≤ a ∧ a ≤ p + 8)) : ∀ (f : Nat) (M : fx_M) (i rf : Int) (Z : PZ), tx_st M s p a n rf Z → (M s 3 = 0 → i ≤ M s 1) → 0 ≤ i → i ≤ M s 2 + 1 → M s 2 - M s 1 < f → (∀ M', tx_st M' s p a n (rTx (M a) (M s 2) f (M s 1) (M s 3) rf Z).2.2.1 (rTx (M a) (M s 2) f (M s 1) (M s 3) rf Z).2.2.2 → M' s 1 = (rTx (M a) (M s 2) f (M s 1) (M s 3) rf Z).1 → M' s 3 = (rTx (M a) (M s 2) f (M s 1) (M s 3) rf Z).2.1 → tfr s p M M' → Q none M') → wp (kcs L xs) (d + 6) 49 85 [some (jR s), some (jR p), some (jI i), none] [] M Q := by
  intro f
  induction f with
  | zero =>
    intro M i rf Z h hi h0 hie hf K
    have := sc_p h.1
    omega
  | succ f ih =>
    intro M i rf Z h hi h0 hie hf K
    have hS := h.1
    obtain ⟨a0, a1, a2, a3, a4, a5, a6, a7, a8⟩ := hS
    have ha := scn_arr Hs a1
    have hd := scn_puz Hs Hp
    have stop : ¬ (M s 3 = 0 ∧ M s 1 < M s 2 ∧ M a (M s 1) = 59) → Q none M := fun hn => by
      have e : rTx (M a) (M s 2) (f + 1) (M s 1) (M s 3) rf Z = (M s 1, M s 3, rf, Z) := by
        rw [rTx, if_neg hn]
      rw [e] at K
      exact K M h rfl rfl (tfr_rf s p M)
    refine s49_85 Hs Hp ⟨⟨⟨by omega, by omega⟩, ⟨by omega, by omega⟩⟩, fun hlt => stop (fun hx => by have := hi hx.1; omega), fun hle => sp_ahead Hs h.1 (by omega) (fun h1 h2 h3 => s49_99 Hs Hp ⟨i01.2, fun h => by omega, fun _ => ?_⟩) (fun hn => s49_99 Hs Hp ⟨i01.1, fun _ => stop hn, fun h => absurd rfl h⟩)⟩
    have hip := hi h1
    have eT : rTx (M a) (M s 2) (f + 1) (M s 1) (M s 3) rf Z = if (rPt (M a) (M s 2) (M s 1 + 1)).2.2 = 0 ∧ rf = 0 then rTx (M a) (M s 2) f (rPt (M a) (M s 2) (M s 1 + 1)).2.1 (rPt (M a) (M s 2) (M s 1 + 1)).2.2 (q_op Z (rPt (M a) (M s 2) (M s 1 + 1)).1).1 (q_op Z (rPt (M a) (M s 2) (M s 1 + 1)).1).2 else rTx (M a) (M s 2) f (rPt (M a) (M s 2) (M s 1 + 1)).2.1 (rPt (M a) (M s 2) (M s 1 + 1)).2.2 rf Z := by
      rw [rTx, if_pos ⟨h1, h2, h3⟩]
    rw [eT] at K
    clear eT stop
    have hpb := rPt_b (g := M a) (e := M s 2) (p := M s 1 + 1) (by omega)
    have fin : ∀ (N : fx_M) (v3 : Int), rfr s M N → N s 1 = (rPt (M a) (M s 2) (M s 1 + 1)).2.1 → N s 3 = (rPt (M a) (M s 2) (M s 1 + 1)).2.2 → (N s 3 = 0 → po_at N s v3 (rPt (M a) (M s 2) (M s 1 + 1)).1) → fx_in32 v3 → (fx_in32 (N s 3)) ∧ (N s 3 ≠ 0 → wp (kcs L xs) (d + 6) 49 85 [some (jR s), some (jR p), some (jI (i + 1)), none] [] N Q) ∧ (N s 3 = 0 → fx_lit (kcs L xs) ((N s 4).toNat) ∧ wc (kcs L xs) (d + 5) 50 [jR ((N s 4).toNat)] N (fun v M1 => wp (kcs L xs) (d + 6) 49 198 [some (jR s), some (jR p), some (jI i), some (jI v3)] (v.toList ++ []) M1 Q)) := by
      intro N v3 hr n1 n3 hpo hv
      have hN := tx_read Hs Hp ha3 h hr (by omega) (by omega)
      have e2 : N s 2 = M s 2 := hr s 2 (by omega) (by omega)
      have ea : N a = M a := by
        funext j
        exact hr a j (by omega) ha3
      refine ⟨⟨by omega, by omega⟩, fun hne => ?_, fun h30 => ?_⟩
      · have hw1 : (rPt (M a) (M s 2) (M s 1 + 1)).2.2 = 1 := by omega
        rw [if_neg (by omega)] at K
        refine ih N (i + 1) rf Z hN (fun h => absurd h hne) (by omega) (by omega) (by omega) ?_
        rw [ea, e2, n1, n3]
        exact fun M' m1 m2 m3 m4 => K M' m1 m2 m3 (tfr_tr (rfr_tfr hr) m4)
      · refine tx_do (d := d + 3) Hs Hp hap hN h30 hv (hpo h30) (fun P rf' Z' hrf hZ hP fP p1 p3 => ?_)
        have e2P : P s 2 = M s 2 := by rw [fP.2.1, e2]
        have eaP : P a = M a := by
          funext j
          rw [fP.1 a j ha ha3 hap, ea]
        refine ih P (i + 1) rf' Z' hP (fun _ => by omega) (by omega) (by omega) (by omega) ?_
        rw [eaP, e2P, p1, p3, n1, n3]
        by_cases hr0 : rf = 0
        · rw [if_pos ⟨by omega, hr0⟩] at K
          rw [if_pos hr0] at hrf hZ
          rw [hrf, hZ]
          exact fun M' m1 m2 m3 m4 => K M' m1 m2 m3 (tfr_tr (rfr_tfr hr) (tfr_tr fP m4))
        · rw [if_neg (fun hx => hr0 hx.2)] at K
          rw [if_neg hr0] at hrf hZ
          rw [hrf, hZ]
          exact fun M' m1 m2 m3 m4 => K M' m1 m2 m3 (tfr_tr (rfr_tfr hr) (tfr_tr fP m4))
    clear K ih
    have eM1 : fx_up M s 1 (M s 1 + 1) = rd M s (M s 1 + 1) 0 := by rw [rd_p, h1]
    rw [eM1]
    have hS1 := sc_at_rd (p := M s 1 + 1) (w := 0) Hs h.1 (by omega) (by omega)
    have hg1 := rd_g (p := M s 1 + 1) (v := 0) Hs h.1
    refine sp_chooseR Hs lt_P hS1 ?_
    rw [hg1.1, hg1.2, rd_1, rd_3, rd_rd]
    have hcb := rC_b (g := M a) (e := M s 2) (bs := bsP) (p := M s 1 + 1) (w := 0) (by omega)
    have hcl : (rC (M a) (M s 2) bsP (M s 1 + 1) 0).1 < 3 := by
      unfold rC
      rw [if_pos rfl]
      exact chP
    unfold rPt at fin
    generalize rC (M a) (M s 2) bsP (M s 1 + 1) 0 = c at fin hcb hcl
    have hSC := sc_at_rd (p := c.2.1) (w := c.2.2) Hs h.1 (by omega) (by omega)
    have hgC := rd_g (p := c.2.1) (v := c.2.2) Hs h.1
    have rC0 : rfr s M (rd M s c.2.1 c.2.2) := rfr_rd (rfr_rf s M)
    refine s49_118 Hs Hp ⟨⟨by omega, by omega⟩, fun n0 => ⟨⟨by omega, by omega⟩, fun n1 => ?_, fun e1 => ?_⟩, fun e0 => ?_⟩
    · rw [if_neg n0, if_neg n1] at fin
      have b1 := rBN_b (g := M a) (e := M s 2) (m := 3) (p := c.2.1) (w := c.2.2) (by omega) (by omega)
      have t1 := rT_b (g := M a) (e := M s 2) (c := 32) (p := c.2.1) (w := c.2.2) (by omega)
      refine sp_take Hs hSC (by omega) (s49_156 Hs Hp ?_)
      rw [hgC.1, hgC.2, rd_1, rd_3, rd_rd]
      have hSt := sc_at_rd (p := (rT (M a) (M s 2) 32 c.2.1 c.2.2).1) (w := (rT (M a) (M s 2) 32 c.2.1 c.2.2).2) Hs h.1 (by omega) (by omega)
      have hgt := rd_g (p := (rT (M a) (M s 2) 32 c.2.1 c.2.2).1) (v := (rT (M a) (M s 2) 32 c.2.1 c.2.2).2) Hs h.1
      refine sp_num (m := 3) Hs hSt (by omega) ?_
      rw [hgt.1, hgt.2, rd_1, rd_3, rd_rd]
      show wp (kcs L xs) (d + 6) 49 166 [some (jR s), some (jR p), some (jI i), some (jI c.1)] [jI (rBN (M a) (M s 2) 3 c.2.1 c.2.2).1, jI 0, jR (s + 3)] (rd M s (rBN (M a) (M s 2) 3 c.2.1 c.2.2).2.1 (rBN (M a) (M s 2) 3 c.2.1 c.2.2).2.2) Q
      generalize rBN (M a) (M s 2) 3 c.2.1 c.2.2 = q at fin b1
      have e3 : ((10 ^ 3 : Nat) : Int) = 1000 := rfl
      refine s49_166 Hs Hp ⟨⟨by omega, by omega⟩, ?_⟩
      rw [up_rd (by omega)]
      have hSq : sc_at (fx_up M (s + 3) 0 q.1) s a n := sc_at_up h.1 (by omega) (by omega)
      have q2 : (fx_up M (s + 3) 0 q.1) s 2 = M s 2 := fx_up_na (by omega)
      have qa : (fx_up M (s + 3) 0 q.1) a = M a := by
        funext j
        exact fx_up_na ha3
      have hSr := sc_at_rd (p := q.2.1) (w := q.2.2) Hs hSq (by omega) (by omega)
      have hgr := rd_g (p := q.2.1) (v := q.2.2) Hs hSq
      have b2 := rBN_b (g := M a) (e := M s 2) (m := 1) (p := q.2.1) (w := q.2.2) (by omega) (by omega)
      have t2 := rT_b (g := M a) (e := M s 2) (c := 32) (p := q.2.1) (w := q.2.2) (by omega)
      refine sp_take Hs hSr (by omega) (s49_173 Hs Hp ?_)
      rw [hgr.1, hgr.2, rd_1, rd_3, rd_rd, qa, q2]
      have hSu := sc_at_rd (p := (rT (M a) (M s 2) 32 q.2.1 q.2.2).1) (w := (rT (M a) (M s 2) 32 q.2.1 q.2.2).2) Hs hSq (by omega) (by omega)
      have hgu := rd_g (p := (rT (M a) (M s 2) 32 q.2.1 q.2.2).1) (v := (rT (M a) (M s 2) 32 q.2.1 q.2.2).2) Hs hSq
      refine sp_num (m := 1) Hs hSu (by omega) ?_
      rw [hgu.1, hgu.2, rd_1, rd_3, rd_rd, qa, q2]
      show wp (kcs L xs) (d + 6) 49 183 [some (jR s), some (jR p), some (jI i), some (jI c.1)] [jI (rBN (M a) (M s 2) 1 q.2.1 q.2.2).1, jI 1, jR (s + 3)] (rd (fx_up M (s + 3) 0 q.1) s (rBN (M a) (M s 2) 1 q.2.1 q.2.2).2.1 (rBN (M a) (M s 2) 1 q.2.1 q.2.2).2.2) Q
      generalize rBN (M a) (M s 2) 1 q.2.1 q.2.2 = r at fin b2
      have e4 : ((10 ^ 1 : Nat) : Int) = 10 := rfl
      have eN : fx_up (rd (fx_up M (s + 3) 0 q.1) s r.2.1 r.2.2) (s + 3) 1 r.1 = rd (fx_up (fx_up M (s + 3) 0 q.1) (s + 3) 1 r.1) s r.2.1 r.2.2 := up_rd (by omega)
      have r3 : (rd (fx_up M (s + 3) 0 q.1) s r.2.1 r.2.2) s 3 = (rd (fx_up (fx_up M (s + 3) 0 q.1) (s + 3) 1 r.1) s r.2.1 r.2.2) s 3 := by rw [rd_3, rd_3]
      have r4 : (rd (fx_up M (s + 3) 0 q.1) s r.2.1 r.2.2) s 4 = (rd (fx_up (fx_up M (s + 3) 0 q.1) (s + 3) 1 r.1) s r.2.1 r.2.2) s 4 := by rw [rd_ne (by omega), rd_ne (by omega), fx_up_na (by omega), fx_up_na (by omega), fx_up_na (by omega)]
      refine s49_183 Hs Hp ⟨⟨by omega, by omega⟩, ?_⟩
      rw [eN, r3, r4]
      refine fin _ c.1 (rfr_rd (rfr_cl (rfr_cl (rfr_rf s M)))) (rd_1 _ _ _ _) (rd_3 _ _ _ _) (fun _ => ?_) ⟨by omega, by omega⟩
      refine ⟨by rw [if_neg n0, if_neg n1], fun h => absurd h n0, fun h => absurd h n1, fun _ _ => ⟨?_, ?_, by show 0 ≤ q.1; omega, by show q.1 < 1000; omega, by show 0 ≤ r.1; omega, by show r.1 < 1000; omega⟩⟩
      · rw [rd_ne (by omega), fx_up_nk (by decide), fx_up_self]
      · rw [rd_ne (by omega), fx_up_self]
    · rw [if_neg n0, if_pos e1] at fin
      have hsb := rSd_b (g := M a) (e := M s 2) (p := c.2.1) (w := c.2.2) (by omega)
      have hs0 := rSd_0 (g := M a) (e := M s 2) (p := c.2.1) (w := c.2.2)
      refine sp_side lt_S Hs hSC ?_
      rw [hgC.1, hgC.2, rd_1, rd_3, rd_rd]
      show wp (kcs L xs) (d + 6) 49 143 [some (jR s), some (jR p), some (jI i), some (jI c.1)] [] (fx_up (rd M s (rSd (M a) (M s 2) c.2.1 c.2.2).2.1 (rSd (M a) (M s 2) c.2.1 c.2.2).2.2) s 10 (rSd (M a) (M s 2) c.2.1 c.2.2).1) Q
      generalize rSd (M a) (M s 2) c.2.1 c.2.2 = q at fin hsb hs0
      rw [up_rd (by omega)]
      have hSq : sc_at (fx_up M s 10 q.1) s a n := sc_at_up h.1 (by omega) (by omega)
      have q2 : (fx_up M s 10 q.1) s 2 = M s 2 := fx_up_nk (by decide)
      have qa : (fx_up M s 10 q.1) a = M a := by
        funext j
        exact fx_up_na ha
      have hSr := sc_at_rd (p := q.2.1) (w := q.2.2) Hs hSq (by omega) (by omega)
      have hgr := rd_g (p := q.2.1) (v := q.2.2) Hs hSq
      have hkb := rK_b (g := M a) (e := M s 2) (bs := bsK) (p := q.2.1) (w := q.2.2) (by omega)
      have hk0 := rK_0 (g := M a) (e := M s 2) (p := q.2.1) (w := q.2.2)
      refine s49_143 Hs Hp (sp_kind lt_K Hs hSr ?_)
      rw [hgr.1, hgr.2, rd_1, rd_3, qa, q2]
      generalize rK (M a) (M s 2) bsK q.2.1 q.2.2 = r at fin hkb hk0
      rw [up_rd (by omega), up_rd (by omega), rd_rd]
      refine s49_147 Hs Hp ?_
      refine fin _ c.1 (rfr_rd (rfr_up (by omega) (rfr_up (by omega) (rfr_up (by omega) (rfr_rf s M))))) (rd_1 _ _ _ _) (rd_3 _ _ _ _) (fun hw => ?_) ⟨by omega, by omega⟩
      rw [rd_3] at hw
      have hk0 := hk0 hw
      have hs0 := hs0 hk0.2.2
      refine ⟨by rw [if_neg n0, if_pos e1], fun h => absurd h n0, fun _ => ⟨?_, ?_, ?_, hk0.1, hk0.2.1, hkb.2.2.1, hkb.2.2.2.1, hs0.1, hs0.2⟩, fun _ h => absurd e1 h⟩
      · rw [rd_ne (by omega), fx_up_nk (by decide), fx_up_nk (by decide), fx_up_self]
      · rw [rd_ne (by omega), fx_up_nk (by decide), fx_up_self]
      · rw [rd_ne (by omega), fx_up_self]
    · rw [if_pos e0] at fin
      have hkb := rK_b (g := M a) (e := M s 2) (bs := bsK) (p := c.2.1) (w := c.2.2) (by omega)
      have hk0 := rK_0 (g := M a) (e := M s 2) (p := c.2.1) (w := c.2.2)
      refine sp_kind lt_K Hs hSC ?_
      rw [hgC.1, hgC.2, rd_1, rd_3]
      generalize rK (M a) (M s 2) bsK c.2.1 c.2.2 = q at fin hkb hk0
      rw [up_rd (by omega), up_rd (by omega), rd_rd]
      have hSq : sc_at (fx_up (fx_up M s 11 q.1) s 12 q.2.1) s a n := sc_at_up (sc_at_up h.1 (by omega) (by omega)) (by omega) (by omega)
      have q2 : (fx_up (fx_up M s 11 q.1) s 12 q.2.1) s 2 = M s 2 := by rw [fx_up_nk (by decide), fx_up_nk (by decide)]
      have qa : (fx_up (fx_up M s 11 q.1) s 12 q.2.1) a = M a := by
        funext j
        rw [fx_up_na ha, fx_up_na ha]
      have hSr := sc_at_rd (p := q.2.2.1) (w := q.2.2.2) Hs hSq (by omega) (by omega)
      have hgr := rd_g (p := q.2.2.1) (v := q.2.2.2) Hs hSq
      refine s49_127 Hs Hp (sp_ruleCells Hs hSr ha3 ?_)
      rw [hgr.1, hgr.2, rd_1, rd_3, qa, q2]
      have hrb := rR_b (g := M a) (e := M s 2) ((M s 2 - q.2.2.1).toNat + 1) true q.2.2.1 q.2.2.2 (by omega) (by omega) (by omega)
      have hrl := rR_l (g := M a) (e := M s 2) ((M s 2 - q.2.2.1).toNat + 1) true q.2.2.1 q.2.2.2 (by omega)
      have hrw := rR_w0 (g := M a) (e := M s 2) (f := (M s 2 - q.2.2.1).toNat + 1) (b := true) (p := q.2.2.1) (w := q.2.2.2)
      generalize rR (M a) (M s 2) ((M s 2 - q.2.2.1).toNat + 1) true q.2.2.1 q.2.2.2 = r at fin hrb hrl hrw
      rw [up_rd (by omega), wcl_rd, rd_rd]
      refine s49_131 Hs Hp ?_
      refine fin _ c.1 (rfr_rd (fun b j c1 c2 => ?_)) (rd_1 _ _ _ _) (rd_3 _ _ _ _) (fun hw => ?_) ⟨by omega, by omega⟩
      · rw [wcl_fr _ _ _ b j (by omega) c2, fx_up_ne (by omega), fx_up_ne (by omega), fx_up_ne (by omega)]
      · rw [rd_3] at hw
        have hk0 := hk0 (hrw hw)
        have f14 : (fx_up (fx_up (fx_up M s 11 q.1) s 12 q.2.1) s 14 0) s 14 = 0 := fx_up_self _ _ _ _
        refine ⟨by rw [if_pos e0], fun _ => ⟨?_, ?_, ?_, hk0.1, hk0.2.1, hkb.2.2.1, hkb.2.2.2.1, by show r.1.length ≤ 100000; omega, fun j x hj hj4 => ?_, hrl.1⟩, fun h => by omega, fun h => absurd e0 h⟩
        · rw [rd_ne (by omega), wcl_fr _ _ _ _ _ (by omega) (by omega), fx_up_nk (by decide), fx_up_nk (by decide), fx_up_self]
        · rw [rd_ne (by omega), wcl_fr _ _ _ _ _ (by omega) (by omega), fx_up_nk (by decide), fx_up_self]
        · rw [rd_ne (by omega), wcl_len _ _ _ f14]
          show (0 : Int) + (r.1.length : Int) = (r.1.length : Int)
          omega
        · rw [rd_ne (by omega)]
          have := wcl_at r.1 0 (fx_up (fx_up (fx_up M s 11 q.1) s 12 q.2.1) s 14 0) (s := s) j x hj (by omega) (by omega)
          rwa [show (0 : Int) + (j : Int) = j by omega] at this
end TXM
