/-! The reference reads a text into a unit of which nothing is known before. -/
/-- reading amid a text: the unit holds a puzzle while nothing was refused -/
def mtg (M : fx_M) (u rf : Int) (Z : PZ) : Prop := ms_at M ∧ M 133 23 = rf ∧ 0 ≤ rf ∧ rf ≤ 5 ∧ u < 10 ∧ (0 ≤ u → rf = 0 → mz M u Z ∧ pz_ok Z)
theorem mtg_read {M N : fx_M} {u rf : Int} {Z : PZ} (h : mtg M u rf Z) (hr : mfr M N) (h7 : 0 ≤ N 133 7 ∧ N 133 7 ≤ M 133 3) : mtg N u rf Z := by
  obtain ⟨⟨a1, a2, a3, a4⟩, b1, b2, b3, b4, b5⟩ := h
  have e3 : N 133 3 = M 133 3 := hr 133 3 (by omega) (by decide)
  refine ⟨⟨h7.1, by omega, by omega, fun j j0 j1 => by rw [hr 135 j (by omega) (by decide)]; exact a4 j j0 (by omega)⟩, by rw [hr 133 23 (by omega) (by decide)]; exact b1, b2, b3, b4, fun hu hz => ⟨mz_mfr (b5 hu hz).2 hr (b5 hu hz).1, (b5 hu hz).2⟩⟩
theorem mtg_did {u : Int} {N P : fx_M} {r : Int} {Z' : PZ} (hu : 0 ≤ u) (hu10 : u < 10) (h : ms_at N) (hr : 0 ≤ r ∧ r ≤ 5) (hz : r = 0 → mz P u Z' ∧ pz_ok Z') (hf : ufr2 u N P) : mtg (fx_up P 133 23 r) u r Z' ∧ mtf u N (fx_up P 133 23 r) ∧ (fx_up P 133 23 r) 133 7 = N 133 7 := by
  obtain ⟨a1, a2, a3, a4⟩ := h
  have e : ∀ j : Int, j ≠ 12 → P 133 j = N 133 j := fun j hj => hf 133 j (by omega) (by decide) (by omega) (by omega) (by omega) (by omega)
  have e7 : (fx_up P 133 23 r) 133 7 = N 133 7 := by rw [fx_up_nk (by decide), e 7 (by decide)]
  have e3 : (fx_up P 133 23 r) 133 3 = N 133 3 := by rw [fx_up_nk (by decide), e 3 (by decide)]
  refine ⟨⟨⟨by omega, by omega, by omega, fun j j0 j1 => by rw [fx_up_na (by decide), hf 135 j (by omega) (by decide) (by omega) (by omega) (by omega) (by omega)]; exact a4 j j0 (by omega)⟩, fx_up_self _ _ _ _, hr.1, hr.2, hu10, fun _ h0 => ⟨mz_fr (hz h0).1 (pz_4 (hz h0).2) (fun b j b1 _ => fx_up_na b1), (hz h0).2⟩⟩, mtf_up (by omega) (mtf_ufr2 hu hf), e7⟩
section MTX
variable {kc : List va_E} {d : Nat} {M : fx_M} {Q : Option fx_V → fx_M → Prop} {u rf : Int} {Z : PZ}
theorem sp_scanPartG (h : mtg M u rf Z) (hul : -1 ≤ u) (K1 : (rPt (M 135) (M 133 3) (M 133 7)).2.2 = 0 → ∀ M', mtg M' u (mq u rf Z (rPt (M 135) (M 133 3) (M 133 7)).1).1 (mq u rf Z (rPt (M 135) (M 133 3) (M 133 7)).1).2 → M' 133 7 = (rPt (M 135) (M 133 3) (M 133 7)).2.1 → mtf u M M' → Q (some (jI 1)) M') (K0 : (rPt (M 135) (M 133 3) (M 133 7)).2.2 = 1 → ∀ M', mtg M' u rf Z → M' 133 7 = (rPt (M 135) (M 133 3) (M 133 7)).2.1 → mtf u M M' → Q (some (jI 0)) M') : wc kc (d + 7) 239 [jR 133, jI u] M Q := by
  have hb := ms_p h.1
  have h23 := h.2.1
  have hrf : 0 ≤ rf ∧ rf ≤ 5 := ⟨h.2.2.1, h.2.2.2.1⟩
  have hu10 := h.2.2.2.2.1
  have hcb := rC_b (g := M 135) (e := M 133 3) (bs := bsP) (p := M 133 7) (w := 0) (by omega)
  have K0' : (rPt (M 135) (M 133 3) (M 133 7)).2.2 = 1 → ∀ M', mfr M M' → M' 133 7 = (rPt (M 135) (M 133 3) (M 133 7)).2.1 → Q (some (jI 0)) M' := fun hw M' m1 m2 => by
    have hpb := rPt_b (g := M 135) (e := M 133 3) (p := M 133 7) (by omega)
    exact K0 hw M' (mtg_read h m1 (by omega)) m2 (mtf_mfr m1)
  have K1' : (rPt (M 135) (M 133 3) (M 133 7)).2.2 = 0 → ¬ (0 ≤ u ∧ rf = 0) → ∀ M', mfr M M' → M' 133 7 = (rPt (M 135) (M 133 3) (M 133 7)).2.1 → Q (some (jI 1)) M' := fun hw hn M' m1 m2 => by
    have hpb := rPt_b (g := M 135) (e := M 133 3) (p := M 133 7) (by omega)
    unfold mq at K1
    rw [if_neg hn] at K1
    exact K1 hw M' (mtg_read h m1 (by omega)) m2 (mtf_mfr m1)
  have K2' : (rPt (M 135) (M 133 3) (M 133 7)).2.2 = 0 → (0 ≤ u ∧ rf = 0) → ∀ (N P : fx_M) (r : Int) (Z' : PZ), mfr M N → N 133 7 = (rPt (M 135) (M 133 3) (M 133 7)).2.1 → (r, Z') = q_op Z (rPt (M 135) (M 133 3) (M 133 7)).1 → mz P u Z' → pz_ok Z' → ufr2 u N P → Q (some (jI 1)) (fx_up P 133 23 r) := fun hw hy N P r Z' m1 m2 m3 m4 m5 m6 => by
    have hpb := rPt_b (g := M 135) (e := M 133 3) (p := M 133 7) (by omega)
    have hqb := q_op_b (Z := Z) (o := (rPt (M 135) (M 133 3) (M 133 7)).1)
    unfold mq at K1
    rw [if_pos hy, ← m3] at K1
    rw [← m3] at hqb
    obtain ⟨t1, t2, t3⟩ := mtg_did hy.1 hu10 (mtg_read h m1 (by omega)).1 hqb (fun _ => ⟨m4, m5⟩) m6
    exact K1 hw _ t1 (by rw [t3, m2]) (mtf_tr (mtf_mfr m1) t2)
  clear K1 K0
  refine s239 (sp_scanW (bs := bsP) (pi := piP) (n := 3) (a := 1) (N := 3) swP (by omega) h.1 (by omega) (by omega) (by omega) (fun w0 k0 k3 p0 p1 => ?_) (fun w1 => ?_))
  · have hpi : piP.getD (rC (M 135) (M 133 3) bsP (M 133 7) 0).1.toNat 0 = (rC (M 135) (M 133 3) bsP (M 133 7) 0).1 + 1 := by
      have hf : ∀ j : Fin 3, piP.getD j 0 = ((j : Nat) : Int) + 1 := by decide +kernel
      have := hf ⟨(rC (M 135) (M 133 3) bsP (M 133 7) 0).1.toNat, by omega⟩
      rw [this]
      show (((rC (M 135) (M 133 3) bsP (M 133 7) 0).1.toNat : Nat) : Int) + 1 = _
      omega
    rw [hpi]
    unfold rPt at K0' K1' K2'
    rw [w0] at K0' K1' K2'
    have m23 : ∀ (x v : Int), (md M x v) 133 23 = rf := fun x v => by rw [md_ne (by omega), h23]
    generalize rC (M 135) (M 133 3) bsP (M 133 7) 0 = c at K0' K1' K2' hcb w0 k0 k3
    have hC := ms_md (p := c.2.1) (v := M 133 8) h.1 (by omega)
    have hCf : mfr M (md M c.2.1 (M 133 8)) := mfr_md (mfr_rf M)
    have g1 : (md M c.2.1 (M 133 8)) 135 = M 135 := md_g.1
    have g2 : (md M c.2.1 (M 133 8)) 133 3 = M 133 3 := md_g.2
    have g7 : (md M c.2.1 (M 133 8)) 133 7 = c.2.1 := md_7 _ _ _
    have hdi : fx_in32 (if 0 ≤ u ∧ rf = 0 then (1 : Int) else 0) := by split <;> exact ⟨by omega, by omega⟩
    refine s239_6 ?_
    rw [m23, mdoes]
    refine ⟨⟨by omega, by omega⟩, fun _ => ⟨by omega, by omega⟩, ⟨by omega, by omega⟩, fun n1 => ⟨⟨by omega, by omega⟩, fun n2 => ⟨⟨by omega, by omega⟩, fun h => by omega, fun _ => ?_⟩, fun e2 => ?_⟩, fun e1 => ?_⟩
    · rw [if_neg (by omega), if_neg (by omega)] at K0' K1' K2'
      have b1 := rBN_b (g := M 135) (e := M 133 3) (m := 3) (p := c.2.1) (w := 0) (by omega) (by omega)
      have e3 : ((10 ^ 3 : Nat) : Int) = 1000 := rfl
      have e4 : ((10 ^ 1 : Nat) : Int) = 10 := rfl
      generalize md M c.2.1 (M 133 8) = C at hC hCf g1 g2 g7
      rw [← g1, ← g2, ← g7] at K0' K1' K2' b1
      have fail1 : (rBN (C 135) (C 133 3) 3 (C 133 7) 0).2.2 = 1 → ∀ M', mfr M M' → M' 133 7 = (rBN (C 135) (C 133 3) 3 (C 133 7) 0).2.1 → Q (some (jI 0)) M' := fun hw M' m1 m2 => by
        rw [hw, rBN_w] at K0'
        exact K0' rfl M' m1 m2
      refine sp_bd3 (S := fun v M1 => wp kc (d + 7) 239 99 [some (jR 133), some (jI u), none, some (jI (if 0 ≤ u ∧ rf = 0 then (1 : Int) else 0))] (v.toList ++ []) M1 Q) hC (fun hw M1 e => s239_92 ⟨i01.1, fun _ => fail1 hw _ (by rw [e]; exact mfr_md hCf) (by rw [e, md_7]), fun h => absurd rfl h⟩) (fun M1 hz => s239_92 ⟨i01.2, fun h => by omega, fun _ => hz⟩) (fun hw M1 e => s239_99 ⟨i01.1, fun h => absurd rfl h, fun _ => fail1 hw _ (by rw [e]; exact mfr_md hCf) (by rw [e, md_7])⟩) (fun hw => s239_99 ⟨i01.2, fun _ => ?_, fun h => by omega⟩)
      rw [hw] at K0' K1' K2'
      clear fail1
      rw [md_8]
      generalize rBN (C 135) (C 133 3) 3 (C 133 7) 0 = q at K0' K1' K2' b1 hw
      have n1' : mfr M (fx_up (md C q.2.1 q.1) 133 20 q.1) := mfr_up (by omega) (mfr_md hCf)
      have n2' : (fx_up (md C q.2.1 q.1) 133 20 q.1) 133 7 = q.2.1 := by rw [fx_up_nk (by decide), md_7]
      have n3' : (fx_up (md C q.2.1 q.1) 133 20 q.1) 133 20 = q.1 := fx_up_self _ _ _ _
      have hCb := ms_p hC
      have n4' : ms_at (fx_up (md C q.2.1 q.1) 133 20 q.1) := ms_up (ms_md hC (by omega)) (by decide) (by omega)
      have n5' : (fx_up (md C q.2.1 q.1) 133 20 q.1) 135 = C 135 := by
        funext j
        rw [fx_up_na (by decide), md_g.1]
      have n6' : (fx_up (md C q.2.1 q.1) 133 20 q.1) 133 3 = C 133 3 := by rw [fx_up_nk (by decide), md_g.2]
      generalize fx_up (md C q.2.1 q.1) 133 20 q.1 = N at n1' n2' n3' n4' n5' n6'
      rw [← n5', ← n6', ← n2'] at K0' K1' K2'
      have b2 := rBN_b (g := N 135) (e := N 133 3) (m := 1) (p := N 133 7) (w := 0) (by omega) (by have := ms_p n4'; omega)
      refine sp_bd1 (S := fun v M1 => wp kc (d + 7) 239 125 [some (jR 133), some (jI u), none, some (jI (if 0 ≤ u ∧ rf = 0 then (1 : Int) else 0))] (v.toList ++ []) M1 Q) n4' (fun hw2 M1 e => s239_118 ⟨i01.1, fun _ => K0' hw2 _ (by rw [e]; exact mfr_md n1') (by rw [e, md_7]), fun h => absurd rfl h⟩) (fun M1 hz => s239_118 ⟨i01.2, fun h => by omega, fun _ => hz⟩) (fun hw2 M1 e => s239_125 ⟨i01.1, fun h => absurd rfl h, fun _ => K0' hw2 _ (by rw [e]; exact mfr_md n1') (by rw [e, md_7])⟩) (fun hw2 => s239_125 ⟨i01.2, fun _ => ⟨hdi, fun hd => ?_, fun hd => ?_⟩, fun h => by omega⟩)
      · refine K1' hw2 (fun hx => ?_) _ (mfr_md n1') (md_7 _ _ _)
        rw [if_pos hx] at hd
        omega
      · have hy : 0 ≤ u ∧ rf = 0 := by
          by_cases hx : 0 ≤ u ∧ rf = 0
          · exact hx
          · rw [if_neg hx] at hd
            exact absurd rfl hd
        have hD := (h.2.2.2.2.2 hy.1 hy.2)
        rw [md_ne (by omega), n3', md_8]
        have hmD : mz (md N (rBN (N 135) (N 133 3) 1 (N 133 7) 0).2.1 (rBN (N 135) (N 133 3) 1 (N 133 7) 0).1) u Z := mz_mfr hD.2 (mfr_md n1') hD.1
        refine sp_mgiveQ ⟨hy.1, hu10⟩ hmD hD.2 ⟨by omega, by omega⟩ ⟨by omega, by omega⟩ (by omega) (fun P m1 m2 m3 => s239_148 ?_)
        refine K2' hw2 hy _ P _ _ (mfr_md n1') (md_7 _ _ _) ?_ m1 m2 (ufr_ufr2 m3)
        unfold q_op
        rw [if_neg (by dsimp only; omega), if_neg (by dsimp only; omega)]
    · rw [if_neg (by omega), if_pos (by omega)] at K0' K1' K2'
      generalize md M c.2.1 (M 133 8) = C at hC hCf g1 g2 g7
      rw [← g1, ← g2, ← g7] at K0' K1' K2'
      have hCb := ms_p hC
      have hsb := rSd_b (g := C 135) (e := C 133 3) (p := C 133 7) (w := 0) (by omega)
      have hkb := rK_b (g := C 135) (e := C 133 3) (bs := bsK) (p := (rSd (C 135) (C 133 3) (C 133 7) 0).2.1) (w := (rSd (C 135) (C 133 3) (C 133 7) 0).2.2) (by omega)
      refine sp_scanEach hC (fun w0 s0 s3 j0 j8 N hN n7 n14 n10 n11 => s239_62 ⟨i01.2, fun _ => ⟨hdi, fun hd => ?_, fun hd => ?_⟩, fun h => by omega⟩) (fun w1 N hN n7 => s239_62 ⟨i01.1, fun h => absurd rfl h, fun _ => K0' w1 N (mfr_tr hCf hN) n7⟩)
      · refine K1' w0 (fun hx => ?_) _ (mfr_tr hCf hN) n7
        rw [if_pos hx] at hd
        omega
      · have hy : 0 ≤ u ∧ rf = 0 := by
          by_cases hx : 0 ≤ u ∧ rf = 0
          · exact hx
          · rw [if_neg hx] at hd
            exact absurd rfl hd
        have hD := (h.2.2.2.2.2 hy.1 hy.2)
        refine sp_maddEachQ ⟨hy.1, hu10⟩ (mz_mfr hD.2 (mfr_tr hCf hN) hD.1) hD.2 ⟨s0, s3⟩ ⟨j0, j8⟩ ⟨hkb.2.2.1, hkb.2.2.2.1⟩ n10 n11 n14 (fun P m1 m2 m3 => s239_77 ?_)
        refine K2' w0 hy N P _ _ (mfr_tr hCf hN) n7 ?_ m1 m2 m3
        unfold q_op
        rw [if_neg (by dsimp only; omega), if_pos rfl]
    · rw [if_pos (by omega)] at K0' K1' K2'
      generalize md M c.2.1 (M 133 8) = C at hC hCf g1 g2 g7
      rw [← g1, ← g2, ← g7] at K0' K1' K2'
      have hCb := ms_p hC
      have hkb := rK_b (g := C 135) (e := C 133 3) (bs := bsK) (p := C 133 7) (w := 0) (by omega)
      have hrl := rR_l (g := C 135) (e := C 133 3) ((C 133 3 - (rK (C 135) (C 133 3) bsK (C 133 7) 0).2.2.1).toNat + 1) true (rK (C 135) (C 133 3) bsK (C 133 7) 0).2.2.1 (rK (C 135) (C 133 3) bsK (C 133 7) 0).2.2.2 (by omega)
      refine sp_scanRule hC (fun w0 j0 j8 N hN n7 n10 n11 n12 nl => s239_33 ⟨i01.2, fun _ => ⟨hdi, fun hd => ?_, fun hd => ?_⟩, fun h => by omega⟩) (fun w1 N hN n7 => s239_33 ⟨i01.1, fun h => absurd rfl h, fun _ => K0' w1 N (mfr_tr hCf hN) n7⟩)
      · refine K1' w0 (fun hx => ?_) _ (mfr_tr hCf hN) n7
        rw [if_pos hx] at hd
        omega
      · have hy : 0 ≤ u ∧ rf = 0 := by
          by_cases hx : 0 ≤ u ∧ rf = 0
          · exact hx
          · rw [if_neg hx] at hd
            exact absurd rfl hd
        have hD := (h.2.2.2.2.2 hy.1 hy.2)
        have hl1 := rR_1 w0
        refine sp_maddRuleQ (k := (rK (C 135) (C 133 3) bsK (C 133 7) 0).1) ⟨hy.1, hu10⟩ (mz_mfr hD.2 (mfr_tr hCf hN) hD.1) hD.2 ⟨j0, j8⟩ ⟨hkb.2.2.1, hkb.2.2.2.1⟩ hl1 (by omega) n10 n11 n12 nl hrl.1 (fun P m1 m2 m3 => s239_48 ?_)
        refine K2' w0 hy N P _ _ (mfr_tr hCf hN) n7 ?_ m1 m2 (ufr_ufr2 m3)
        unfold q_op
        rw [if_pos rfl]
  · have hc0 := rC_n w1
    unfold rPt at K0'
    rw [w1] at K0'
    generalize rC (M 135) (M 133 3) bsP (M 133 7) 0 = c at K0' hcb w1 hc0
    rw [if_neg (by omega), if_neg (by omega), rBN_w, rBN_w] at K0'
    have m23 : (md M c.2.1 (M 133 8)) 133 23 = rf := by rw [md_ne (by omega), h23]
    refine s239_6 ?_
    rw [m23]
    exact ⟨⟨by omega, by omega⟩, fun _ => ⟨by omega, by omega⟩, ⟨by omega, by omega⟩, fun _ => ⟨⟨by omega, by omega⟩, fun _ => ⟨⟨by omega, by omega⟩, fun _ => K0' rfl _ (mfr_md (mfr_rf M)) (md_7 _ _ _), fun h => by omega⟩, fun h => by omega⟩, fun h => by omega⟩
end MTX
section MTY
variable {kc : List va_E} {d : Nat} {Q : Option fx_V → fx_M → Prop} {u : Int}
theorem mtg_loop (hul : -1 ≤ u) : ∀ (f : Nat) (M : fx_M) (rf : Int) (Z : PZ), mtg M u rf Z → M 133 3 - M 133 7 < f → ((mTx u (M 135) (M 133 3) f (M 133 7) 0 rf Z).2.1 = 0 → ∀ M', mtg M' u (mTx u (M 135) (M 133 3) f (M 133 7) 0 rf Z).2.2.1 (mTx u (M 135) (M 133 3) f (M 133 7) 0 rf Z).2.2.2 → M' 133 7 = (mTx u (M 135) (M 133 3) f (M 133 7) 0 rf Z).1 → mtf u M M' → Q (some (jI 1)) M') → ((mTx u (M 135) (M 133 3) f (M 133 7) 0 rf Z).2.1 = 1 → ∀ M', ms_at M' → M' 133 7 = (mTx u (M 135) (M 133 3) f (M 133 7) 0 rf Z).1 → mtf u M M' → Q (some (jI 0)) M') → wp kc (d + 8) 238 48 [some (jR 133), some (jI u)] [] M Q := by
  intro f
  induction f with
  | zero =>
    intro M rf Z h hf K1 K0
    have := ms_p h.1
    omega
  | succ f ih =>
    intro M rf Z h hf K1 K0
    have hb := ms_p h.1
    have hh := here_in h.1
    refine s238_48 (sp_here h.1 (s238_52 ⟨hh, fun hne => ?_, fun he => ?_⟩))
    · have hn : ¬ ((0 : Int) = 0 ∧ M 133 7 < M 133 3 ∧ M 135 (M 133 7) = 59) := fun hx => hne (by rw [if_pos hx.2.1]; exact hx.2.2)
      have e : mTx u (M 135) (M 133 3) (f + 1) (M 133 7) 0 rf Z = (M 133 7, 0, rf, Z) := by rw [mTx, if_neg hn]
      rw [e] at K1
      exact K1 rfl M h rfl (mtf_rf u M)
    · by_cases hp : M 133 7 < M 133 3
      · rw [if_pos hp] at he
        have eT : mTx u (M 135) (M 133 3) (f + 1) (M 133 7) 0 rf Z = if (rPt (M 135) (M 133 3) (M 133 7 + 1)).2.2 = 0 then mTx u (M 135) (M 133 3) f (rPt (M 135) (M 133 3) (M 133 7 + 1)).2.1 (rPt (M 135) (M 133 3) (M 133 7 + 1)).2.2 (mq u rf Z (rPt (M 135) (M 133 3) (M 133 7 + 1)).1).1 (mq u rf Z (rPt (M 135) (M 133 3) (M 133 7 + 1)).1).2 else mTx u (M 135) (M 133 3) f (rPt (M 135) (M 133 3) (M 133 7 + 1)).2.1 (rPt (M 135) (M 133 3) (M 133 7 + 1)).2.2 rf Z := by rw [mTx, if_pos ⟨rfl, hp, he⟩]
        rw [eT] at K1 K0
        have hpb := rPt_b (g := M 135) (e := M 133 3) (p := M 133 7 + 1) (by omega)
        rw [md_p]
        have hM1 := mtg_read (N := md M (M 133 7 + 1) (M 133 8)) h (mfr_md (mfr_rf M)) (by rw [md_7]; omega)
        have g1 : (md M (M 133 7 + 1) (M 133 8)) 135 = M 135 := md_g.1
        have g2 : (md M (M 133 7 + 1) (M 133 8)) 133 3 = M 133 3 := md_g.2
        refine sp_scanPartG hM1 hul ?_ ?_
        · rw [g1, g2, md_7]
          intro w0 M' m1 m2 m3
          rw [if_pos w0] at K1 K0
          have m3' : mtf u M M' := mtf_tr (mtf_mfr (mfr_md (mfr_rf M))) m3
          have e3 : M' 133 3 = M 133 3 := m3' 133 3 (by omega) (by decide) (by unfold ucell; omega)
          have e5 : M' 135 = M 135 := by
            funext j
            exact m3' 135 j (by omega) (by decide) (by unfold ucell; omega)
          refine s238_72 ⟨i01.2, fun _ => ?_, fun h => by omega⟩
          refine ih M' _ _ m1 (by omega) ?_ ?_
          · rw [e3, e5, m2]
            rw [w0] at K1
            exact fun a1 P b1 b2 b3 => K1 a1 P b1 b2 (mtf_tr m3' b3)
          · rw [e3, e5, m2]
            rw [w0] at K0
            exact fun a1 P b1 b2 b3 => K0 a1 P b1 b2 (mtf_tr m3' b3)
        · rw [g1, g2, md_7]
          intro w1 M' m1 m2 m3
          rw [if_neg (by omega), w1, mTx_w] at K0
          exact s238_72 ⟨i01.1, fun h => absurd rfl h, fun _ => K0 rfl M' m1.1 m2 (mtf_tr (mtf_mfr (mfr_md (mfr_rf M))) m3)⟩
      · rw [if_neg hp] at he
        omega
theorem sp_scanTextG {M : fx_M} {Z : PZ} (hul : -1 ≤ u) (hu10 : u < 10) (hms : ms_at (fx_up M 133 23 0)) (K1 : (mText u (M 135) (M 133 3) (M 133 7) Z).2.1 = 0 → ∀ M', mtg M' u (mText u (M 135) (M 133 3) (M 133 7) Z).2.2.1 (mText u (M 135) (M 133 3) (M 133 7) Z).2.2.2 → M' 133 7 = (mText u (M 135) (M 133 3) (M 133 7) Z).1 → mtf u M M' → Q (some (jI 1)) M') (K0 : (mText u (M 135) (M 133 3) (M 133 7) Z).2.1 = 1 → ∀ M', ms_at M' → M' 133 7 = (mText u (M 135) (M 133 3) (M 133 7) Z).1 → mtf u M M' → Q (some (jI 0)) M') : wc kc (d + 8) 238 [jR 133, jI u] M Q := by
  have h : mtg (fx_up M 133 23 0) (-1) 0 Z := ⟨hms, fx_up_self .., by omega, by omega, by omega, fun h => by omega⟩
  have hb := ms_p h.1
  have s7 : (fx_up M 133 23 0) 133 7 = M 133 7 := fx_up_nk (by decide)
  have s3 : (fx_up M 133 23 0) 133 3 = M 133 3 := fx_up_nk (by decide)
  have s5 : (fx_up M 133 23 0) 135 = M 135 := by
    funext j
    exact fx_up_na (by decide)
  have sf : mtf u M (fx_up M 133 23 0) := mtf_up (by omega) (mtf_rf u M)
  rw [← s7, ← s3, ← s5] at K1 K0
  rw [s7, s3] at hb
  refine s238 ?_
  generalize fx_up M 133 23 0 = S at h s7 s3 s5 sf K1 K0
  have hb := ms_p h.1
  have hcb := rC_b (g := S 135) (e := S 133 3) (bs := bsN) (p := S 133 7) (w := 0) (by omega)
  unfold mText at K1 K0
  refine sp_scanW (bs := bsN) (pi := piN) (n := 1) (a := 0) (N := 1) swN (by omega) h.1 (by omega) (by omega) (by omega) (fun w0 k0 k1 p0 p1 => ?_) (fun w1 => ?_)
  · rw [w0] at K1 K0
    generalize hpi : piN.getD (rC (S 135) (S 133 3) bsN (S 133 7) 0).1.toNat 0 = v at p0 p1
    generalize rC (S 135) (S 133 3) bsN (S 133 7) 0 = c at K1 K0 hcb w0
    have hC := mtg_read (N := md S c.2.1 (S 133 8)) h (mfr_md (mfr_rf S)) (by rw [md_7]; omega)
    have hCf : mfr S (md S c.2.1 (S 133 8)) := mfr_md (mfr_rf S)
    have g1 : (md S c.2.1 (S 133 8)) 135 = S 135 := md_g.1
    have g2 : (md S c.2.1 (S 133 8)) 133 3 = S 133 3 := md_g.2
    have g7 : (md S c.2.1 (S 133 8)) 133 7 = c.2.1 := md_7 _ _ _
    refine s238_11 ⟨⟨by omega, by omega⟩, fun h => by omega, fun _ => ?_⟩
    generalize md S c.2.1 (S 133 8) = C at hC hCf g1 g2 g7
    rw [← g1, ← g2, ← g7] at K1 K0
    have hCb := ms_p hC.1
    have b1 := rBN_b (g := C 135) (e := C 133 3) (m := 1) (p := C 133 7) (w := 0) (by omega) (by omega)
    have b2 := rBN_b (g := C 135) (e := C 133 3) (m := 1) (p := (rZ1 (C 135) (C 133 3) (C 133 7) 0).2.1) (w := (rZ1 (C 135) (C 133 3) (C 133 7) 0).2.2) (by omega) (by unfold rZ1; omega)
    have b3 := rBN_b (g := C 135) (e := C 133 3) (m := 1) (p := (rZ2 (C 135) (C 133 3) (C 133 7) 0).2.1) (w := (rZ2 (C 135) (C 133 3) (C 133 7) 0).2.2) (by omega) (by unfold rZ2; omega)
    have e4 : ((10 ^ 1 : Nat) : Int) = 10 := rfl
    have z1b : 0 ≤ (rZ1 (C 135) (C 133 3) (C 133 7) 0).1 ∧ (rZ1 (C 135) (C 133 3) (C 133 7) 0).1 < 10 := by unfold rZ1; omega
    have z2b : 0 ≤ (rZ2 (C 135) (C 133 3) (C 133 7) 0).1 ∧ (rZ2 (C 135) (C 133 3) (C 133 7) 0).1 < 10 := by unfold rZ2; omega
    have z3b : 0 ≤ (rZ3 (C 135) (C 133 3) (C 133 7) 0).1 ∧ (rZ3 (C 135) (C 133 3) (C 133 7) 0).1 < 10 ∧ 0 ≤ (rZ3 (C 135) (C 133 3) (C 133 7) 0).2.1 ∧ (rZ3 (C 135) (C 133 3) (C 133 7) 0).2.1 ≤ C 133 3 := by
      have : (rZ2 (C 135) (C 133 3) (C 133 7) 0).2.1 ≥ 0 := by unfold rZ2 rZ1 at *; omega
      unfold rZ3
      omega
    refine sp_scanSizes hC.1 (fun w3 N hN n7 n17 n18 n19 => s238_18 ⟨i01.2, fun _ => ⟨⟨by omega, by omega⟩, fun hneg => ?_, fun hpos => ?_⟩, fun h => by omega⟩) (fun w3 N hN n7 => s238_18 ⟨i01.1, fun h => absurd rfl h, fun _ => ?_⟩)
    · rw [if_neg (by omega), w3] at K1 K0
      have hNm := mtg_read hC hN (by omega)
      have e3 : N 133 3 = C 133 3 := hN 133 3 (by omega) (by decide)
      have e5 : N 135 = C 135 := by
        funext j
        exact hN 135 j (by omega) (by decide)
      have nf : mtf u M N := mtf_tr sf (mtf_tr (mtf_mfr hCf) (mtf_mfr hN))
      rw [show (-1 : Int) = u by omega] at hNm
      refine mtg_loop hul ((C 133 3 - (rZ3 (C 135) (C 133 3) (C 133 7) 0).2.1).toNat + 1) N 0 Z hNm (by omega) ?_ ?_
      · rw [e3, e5, n7]
        exact fun a1 P b1 b2 b3 => K1 a1 P b1 b2 (mtf_tr nf b3)
      · rw [e3, e5, n7]
        exact fun a1 P b1 b2 b3 => K0 a1 P b1 b2 (mtf_tr nf b3)
    · rw [if_pos ⟨w3, hpos⟩, w3] at K1 K0
      have hNm := mtg_read hC hN (by omega)
      have e3 : N 133 3 = C 133 3 := hN 133 3 (by omega) (by decide)
      have e5 : N 135 = C 135 := by
        funext j
        exact hN 135 j (by omega) (by decide)
      have nf : mtf u M N := mtf_tr sf (mtf_tr (mtf_mfr hCf) (mtf_mfr hN))
      rw [n17, n18, n19]
      have fin : ∀ P : fx_M, ((q_size Z (rZ1 (C 135) (C 133 3) (C 133 7) 0).1 (rZ2 (C 135) (C 133 3) (C 133 7) 0).1 (rZ3 (C 135) (C 133 3) (C 133 7) 0).1).1 = 0 → mz P u (q_size Z (rZ1 (C 135) (C 133 3) (C 133 7) 0).1 (rZ2 (C 135) (C 133 3) (C 133 7) 0).1 (rZ3 (C 135) (C 133 3) (C 133 7) 0).1).2 ∧ pz_ok (q_size Z (rZ1 (C 135) (C 133 3) (C 133 7) 0).1 (rZ2 (C 135) (C 133 3) (C 133 7) 0).1 (rZ3 (C 135) (C 133 3) (C 133 7) 0).1).2) → ufr u N P → wp kc (d + 8) 238 45 [some (jR 133), some (jI u)] [jI (q_size Z (rZ1 (C 135) (C 133 3) (C 133 7) 0).1 (rZ2 (C 135) (C 133 3) (C 133 7) 0).1 (rZ3 (C 135) (C 133 3) (C 133 7) 0).1).1, jR 133] P Q := fun P m1 m3 => by
        refine s238_45 ?_
        have hqb : 0 ≤ (q_size Z (rZ1 (C 135) (C 133 3) (C 133 7) 0).1 (rZ2 (C 135) (C 133 3) (C 133 7) 0).1 (rZ3 (C 135) (C 133 3) (C 133 7) 0).1).1 ∧ (q_size Z (rZ1 (C 135) (C 133 3) (C 133 7) 0).1 (rZ2 (C 135) (C 133 3) (C 133 7) 0).1 (rZ3 (C 135) (C 133 3) (C 133 7) 0).1).1 ≤ 5 := by
          unfold q_size
          split <;> (dsimp only; omega)
        obtain ⟨t1, t2, t3⟩ := mtg_did hpos hu10 hNm.1 hqb m1 (ufr_ufr2 m3)
        generalize q_size Z (rZ1 (C 135) (C 133 3) (C 133 7) 0).1 (rZ2 (C 135) (C 133 3) (C 133 7) 0).1 (rZ3 (C 135) (C 133 3) (C 133 7) 0).1 = qs at K1 K0 t1 t2 t3 ⊢
        have f3 : (fx_up P 133 23 qs.1) 133 3 = C 133 3 := by rw [t2 133 3 (by omega) (by decide) (by unfold ucell; omega), e3]
        have f5 : (fx_up P 133 23 qs.1) 135 = C 135 := by
          funext j
          rw [t2 135 j (by omega) (by decide) (by unfold ucell; omega), e5]
        refine mtg_loop hul ((C 133 3 - (rZ3 (C 135) (C 133 3) (C 133 7) 0).2.1).toNat + 1) _ qs.1 qs.2 t1 (by omega) ?_ ?_
        · rw [f3, f5, t3, n7]
          exact fun a1 X b1 b2 b3 => K1 a1 X b1 b2 (mtf_tr nf (mtf_tr t2 b3))
        · rw [f3, f5, t3, n7]
          exact fun a1 X b1 b2 b3 => K0 a1 X b1 b2 (mtf_tr nf (mtf_tr t2 b3))
      by_cases hz : z_size (rZ1 (C 135) (C 133 3) (C 133 7) 0).1 (rZ2 (C 135) (C 133 3) (C 133 7) 0).1 (rZ3 (C 135) (C 133 3) (C 133 7) 0).1
      · have eq : q_size Z (rZ1 (C 135) (C 133 3) (C 133 7) 0).1 (rZ2 (C 135) (C 133 3) (C 133 7) 0).1 (rZ3 (C 135) (C 133 3) (C 133 7) 0).1 = (0, z_new (rZ1 (C 135) (C 133 3) (C 133 7) 0).1 (rZ2 (C 135) (C 133 3) (C 133 7) 0).1 (rZ3 (C 135) (C 133 3) (C 133 7) 0).1) := by
          unfold q_size
          exact if_pos hz
        rw [eq] at fin
        exact sp_begin (d := d + 6) ⟨hpos, hu10⟩ ⟨by omega, by omega⟩ ⟨by omega, by omega⟩ ⟨by omega, by omega⟩ (fun h => absurd hz h) (fun _ P m1 m3 => fin P (fun _ => ⟨m1, z_new_ok hz⟩) m3)
      · have eq : q_size Z (rZ1 (C 135) (C 133 3) (C 133 7) 0).1 (rZ2 (C 135) (C 133 3) (C 133 7) 0).1 (rZ3 (C 135) (C 133 3) (C 133 7) 0).1 = (1, Z) := by
          unfold q_size
          exact if_neg hz
        rw [eq] at fin
        exact sp_begin (d := d + 6) ⟨hpos, hu10⟩ ⟨by omega, by omega⟩ ⟨by omega, by omega⟩ ⟨by omega, by omega⟩ (fun _ => fin N (fun h => by dsimp only at h; omega) (fun _ _ _ _ _ _ => rfl)) (fun h => absurd h hz)
    · rw [if_neg (by omega), w3, mTx_w] at K0
      have hNm := mtg_read hC hN (by omega)
      exact K0 rfl N hNm.1 n7 (mtf_tr sf (mtf_tr (mtf_mfr hCf) (mtf_mfr hN)))
  · rw [w1, rZ_w] at K0
    rw [if_neg (show ¬ ((1 : Int) = 0 ∧ 0 ≤ u) by omega), mTx_w] at K0
    generalize rC (S 135) (S 133 3) bsN (S 133 7) 0 = c at K0 hcb w1
    exact s238_11 ⟨⟨by omega, by omega⟩, fun _ => K0 rfl _ (mtg_read h (mfr_md (mfr_rf S)) (by rw [md_7]; omega)).1 (md_7 _ _ _) (mtf_tr sf (mtf_mfr (mfr_md (mfr_rf S)))), fun h => by omega⟩
end MTY
