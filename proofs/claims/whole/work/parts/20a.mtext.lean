/-! TEXTS read: the reference. -/
def ucell (u : Int) (b : Nat) (j : Int) : Prop := ((b = 146 ∨ b = 147 ∨ b = 148 ∨ b = 149) ∧ j = u) ∨ ((b = 150 ∨ b = 151 ∨ b = 152) ∧ 12 * u ≤ j ∧ j < 12 * u + 12) ∨ (b = 153 ∧ 48 * u ≤ j ∧ j < 48 * u + 48) ∨ (b = 154 ∧ 9 * u ≤ j ∧ j < 9 * u + 9)
/-- only reading, and unit u (where there is one), has changed -/
def mtf (u : Int) (M M' : fx_M) : Prop := ∀ b j, ¬ (b = 133 ∧ 7 ≤ j ∧ j ≤ 23) → b ≠ 137 → ¬ (0 ≤ u ∧ ucell u b j) → M' b j = M b j
theorem mtf_rf (u : Int) (M : fx_M) : mtf u M M := fun _ _ _ _ _ => rfl
theorem mtf_tr {u : Int} {M N P : fx_M} (h1 : mtf u M N) (h2 : mtf u N P) : mtf u M P := fun b j a1 a2 a3 => by rw [h2 b j a1 a2 a3, h1 b j a1 a2 a3]
theorem mtf_mfr {u : Int} {M N : fx_M} (h : mfr M N) : mtf u M N := fun b j a1 a2 _ => h b j (by omega) a2
theorem mtf_up {u : Int} {M N : fx_M} {k v : Int} (hk : 7 ≤ k ∧ k ≤ 23) (h : mtf u M N) : mtf u M (fx_up N 133 k v) := fun b j a1 a2 a3 => by rw [fx_up_ne (by omega), h b j a1 a2 a3]
theorem mtf_ufr2 {u : Int} {M N : fx_M} (hu : 0 ≤ u) (h : ufr2 u M N) : mtf u M N := fun b j a1 a2 a3 => by
  have a3 : ¬ ucell u b j := fun hx => a3 ⟨hu, hx⟩
  unfold ucell at a3
  exact h b j (by omega) a2 (fun hx => a3 (Or.inl hx)) (fun hx => a3 (Or.inr (Or.inl hx))) (fun hx => a3 (Or.inr (Or.inr (Or.inl hx)))) (fun hx => a3 (Or.inr (Or.inr (Or.inr hx))))
/-- the reference reads into unit u (below 0: it only reads); rf was refused before -/
def mtx (M : fx_M) (u rf : Int) (Z : PZ) : Prop := ms_at M ∧ M 133 23 = rf ∧ 0 ≤ rf ∧ rf ≤ 5 ∧ u < 10 ∧ (0 ≤ u → mz M u Z ∧ pz_ok Z)
theorem mz_mfr {M N : fx_M} {u : Int} {Z : PZ} (ho : pz_ok Z) (h : mfr M N) (hz : mz M u Z) : mz N u Z := mz_fr hz (pz_4 ho) (fun b j b1 b2 => h b j (by omega) b2)
theorem mtx_read {M N : fx_M} {u rf : Int} {Z : PZ} (h : mtx M u rf Z) (hr : mfr M N) (h7 : 0 ≤ N 133 7 ∧ N 133 7 ≤ M 133 3) : mtx N u rf Z := by
  obtain ⟨⟨a1, a2, a3, a4⟩, b1, b2, b3, b4, b5⟩ := h
  have e3 : N 133 3 = M 133 3 := hr 133 3 (by omega) (by decide)
  refine ⟨⟨h7.1, by omega, by omega, fun j j0 j1 => by rw [hr 135 j (by omega) (by decide)]; exact a4 j j0 (by omega)⟩, by rw [hr 133 23 (by omega) (by decide)]; exact b1, b2, b3, b4, fun hu => ⟨mz_mfr (b5 hu).2 hr (b5 hu).1, (b5 hu).2⟩⟩
theorem q_op_b {Z : PZ} {o : PO} : 0 ≤ (q_op Z o).1 ∧ (q_op Z o).1 ≤ 5 := by
  unfold q_op q_rule q_each q_give
  (repeat' split) <;> (dsimp only; omega)
section MTT
variable {kc : List va_E} {d : Nat} {M : fx_M} {Q : Option fx_V → fx_M → Prop} {u rf : Int} {Z : PZ}
/-- behind an operation: its answer is what was refused -/
theorem mtx_did {N P : fx_M} {r : Int} {Z' : PZ} (hu : 0 ≤ u) (h : mtx N u rf Z) (hr : 0 ≤ r ∧ r ≤ 5) (hz : mz P u Z') (ho : pz_ok Z') (hf : ufr2 u N P) : mtx (fx_up P 133 23 r) u r Z' ∧ mtf u N (fx_up P 133 23 r) ∧ (fx_up P 133 23 r) 133 7 = N 133 7 := by
  obtain ⟨⟨a1, a2, a3, a4⟩, b1, b2, b3, b4, b5⟩ := h
  have e : ∀ j : Int, j ≠ 12 → P 133 j = N 133 j := fun j hj => hf 133 j (by omega) (by decide) (by omega) (by omega) (by omega) (by omega)
  have e7 : (fx_up P 133 23 r) 133 7 = N 133 7 := by rw [fx_up_nk (by decide), e 7 (by decide)]
  have e3 : (fx_up P 133 23 r) 133 3 = N 133 3 := by rw [fx_up_nk (by decide), e 3 (by decide)]
  refine ⟨⟨⟨by omega, by omega, by omega, fun j j0 j1 => by rw [fx_up_na (by decide), hf 135 j (by omega) (by decide) (by omega) (by omega) (by omega) (by omega)]; exact a4 j j0 (by omega)⟩, fx_up_self _ _ _ _, hr.1, hr.2, b4, fun _ => ⟨mz_fr hz (pz_4 ho) (fun b j b1 _ => fx_up_na b1), ho⟩⟩, mtf_up (by omega) (mtf_ufr2 hu hf), e7⟩
/-- what stands behind a part: refusal and puzzle -/
def mq (u rf : Int) (Z : PZ) (o : PO) : Int × PZ := if 0 ≤ u ∧ rf = 0 then q_op Z o else (rf, Z)
theorem mdoes {x : Int} : (if u < 0 then (0 : Int) else (if x = 0 then (1 : Int) else 0)) = if 0 ≤ u ∧ x = 0 then 1 else 0 := by
  by_cases h : u < 0
  · rw [if_pos h, if_neg (by omega)]
  · rw [if_neg h]
    by_cases hx : x = 0
    · rw [if_pos hx, if_pos ⟨by omega, hx⟩]
    · rw [if_neg hx, if_neg (fun h => hx h.2)]
/-- scanPart, behind the semicolon -/
theorem sp_scanPart (h : mtx M u rf Z) (hul : -1 ≤ u) (K1 : (rPt (M 135) (M 133 3) (M 133 7)).2.2 = 0 → ∀ M', mtx M' u (mq u rf Z (rPt (M 135) (M 133 3) (M 133 7)).1).1 (mq u rf Z (rPt (M 135) (M 133 3) (M 133 7)).1).2 → M' 133 7 = (rPt (M 135) (M 133 3) (M 133 7)).2.1 → mtf u M M' → Q (some (jI 1)) M') (K0 : (rPt (M 135) (M 133 3) (M 133 7)).2.2 = 1 → ∀ M', ms_at M' → M' 133 7 = (rPt (M 135) (M 133 3) (M 133 7)).2.1 → mtf u M M' → Q (some (jI 0)) M') : wc kc (d + 7) 239 [jR 133, jI u] M Q := by
  have hb := ms_p h.1
  have h23 := h.2.1
  have hrf : 0 ≤ rf ∧ rf ≤ 5 := ⟨h.2.2.1, h.2.2.2.1⟩
  have hu10 := h.2.2.2.2.1
  have hcb := rC_b (g := M 135) (e := M 133 3) (bs := bsP) (p := M 133 7) (w := 0) (by omega)
  have K0' : (rPt (M 135) (M 133 3) (M 133 7)).2.2 = 1 → ∀ M', mfr M M' → M' 133 7 = (rPt (M 135) (M 133 3) (M 133 7)).2.1 → Q (some (jI 0)) M' := fun hw M' m1 m2 => by
    have hpb := rPt_b (g := M 135) (e := M 133 3) (p := M 133 7) (by omega)
    exact K0 hw M' (mtx_read h m1 (by omega)).1 m2 (mtf_mfr m1)
  have K1' : (rPt (M 135) (M 133 3) (M 133 7)).2.2 = 0 → ¬ (0 ≤ u ∧ rf = 0) → ∀ M', mfr M M' → M' 133 7 = (rPt (M 135) (M 133 3) (M 133 7)).2.1 → Q (some (jI 1)) M' := fun hw hn M' m1 m2 => by
    have hpb := rPt_b (g := M 135) (e := M 133 3) (p := M 133 7) (by omega)
    unfold mq at K1
    rw [if_neg hn] at K1
    exact K1 hw M' (mtx_read h m1 (by omega)) m2 (mtf_mfr m1)
  have K2' : (rPt (M 135) (M 133 3) (M 133 7)).2.2 = 0 → (0 ≤ u ∧ rf = 0) → ∀ (N P : fx_M) (r : Int) (Z' : PZ), mfr M N → N 133 7 = (rPt (M 135) (M 133 3) (M 133 7)).2.1 → (r, Z') = q_op Z (rPt (M 135) (M 133 3) (M 133 7)).1 → mz P u Z' → pz_ok Z' → ufr2 u N P → Q (some (jI 1)) (fx_up P 133 23 r) := fun hw hy N P r Z' m1 m2 m3 m4 m5 m6 => by
    have hpb := rPt_b (g := M 135) (e := M 133 3) (p := M 133 7) (by omega)
    have hqb := q_op_b (Z := Z) (o := (rPt (M 135) (M 133 3) (M 133 7)).1)
    unfold mq at K1
    rw [if_pos hy, ← m3] at K1
    rw [← m3] at hqb
    obtain ⟨t1, t2, t3⟩ := mtx_did hy.1 (mtx_read h m1 (by omega)) hqb m4 m5 m6
    exact K1 hw _ t1 (by rw [t3, m2]) (mtf_tr (mtf_mfr m1) t2)
  clear K1 K0
  refine s239 (sp_scanW (bs := bsP) (pi := piP) (n := 3) (a := 1) (N := 3) swP (by omega) h.1 (by omega) (by omega) (by omega) (fun w0 k0 k3 p0 p1 => ?_) (fun w1 => ?_))
  · have hpi : piP.getD (rC (M 135) (M 133 3) bsP (M 133 7) 0).1.toNat 0 = (rC (M 135) (M 133 3) bsP (M 133 7) 0).1 + 1 := by
      have hf : ∀ j : Fin 3, piP.getD j 0 = ((j : Nat) : Int) + 1 := by decide +kernel
      have := hf ⟨(rC (M 135) (M 133 3) bsP (M 133 7) 0).1.toNat, by omega⟩
      rw [this]
      show (((rC (M 135) (M 133 3) bsP (M 133 7) 0).1.toNat : Nat) : Int) + 1 = _
      omega
    rw [hpi]
    unfold rPt at K0' K1' K2'
    rw [w0] at K0' K1' K2'
    have m23 : ∀ (x v : Int), (md M x v) 133 23 = rf := fun x v => by rw [md_ne (by omega), h23]
    generalize rC (M 135) (M 133 3) bsP (M 133 7) 0 = c at K0' K1' K2' hcb w0 k0 k3
    have hC := ms_md (p := c.2.1) (v := M 133 8) h.1 (by omega)
    have hCf : mfr M (md M c.2.1 (M 133 8)) := mfr_md (mfr_rf M)
    have g1 : (md M c.2.1 (M 133 8)) 135 = M 135 := md_g.1
    have g2 : (md M c.2.1 (M 133 8)) 133 3 = M 133 3 := md_g.2
    have g7 : (md M c.2.1 (M 133 8)) 133 7 = c.2.1 := md_7 _ _ _
    have hdi : fx_in32 (if 0 ≤ u ∧ rf = 0 then (1 : Int) else 0) := by split <;> exact ⟨by omega, by omega⟩
    refine s239_6 ?_
    rw [m23, mdoes]
    refine ⟨⟨by omega, by omega⟩, fun _ => ⟨by omega, by omega⟩, ⟨by omega, by omega⟩, fun n1 => ⟨⟨by omega, by omega⟩, fun n2 => ⟨⟨by omega, by omega⟩, fun h => by omega, fun _ => ?_⟩, fun e2 => ?_⟩, fun e1 => ?_⟩
    · rw [if_neg (by omega), if_neg (by omega)] at K0' K1' K2'
      have b1 := rBN_b (g := M 135) (e := M 133 3) (m := 3) (p := c.2.1) (w := 0) (by omega) (by omega)
      have e3 : ((10 ^ 3 : Nat) : Int) = 1000 := rfl
      have e4 : ((10 ^ 1 : Nat) : Int) = 10 := rfl
      generalize md M c.2.1 (M 133 8) = C at hC hCf g1 g2 g7
      rw [← g1, ← g2, ← g7] at K0' K1' K2' b1
      have fail1 : (rBN (C 135) (C 133 3) 3 (C 133 7) 0).2.2 = 1 → ∀ M', mfr M M' → M' 133 7 = (rBN (C 135) (C 133 3) 3 (C 133 7) 0).2.1 → Q (some (jI 0)) M' := fun hw M' m1 m2 => by
        rw [hw, rBN_w] at K0'
        exact K0' rfl M' m1 m2
      refine sp_bd3 (S := fun v M1 => wp kc (d + 7) 239 99 [some (jR 133), some (jI u), none, some (jI (if 0 ≤ u ∧ rf = 0 then (1 : Int) else 0))] (v.toList ++ []) M1 Q) hC (fun hw M1 e => s239_92 ⟨i01.1, fun _ => fail1 hw _ (by rw [e]; exact mfr_md hCf) (by rw [e, md_7]), fun h => absurd rfl h⟩) (fun M1 hz => s239_92 ⟨i01.2, fun h => by omega, fun _ => hz⟩) (fun hw M1 e => s239_99 ⟨i01.1, fun h => absurd rfl h, fun _ => fail1 hw _ (by rw [e]; exact mfr_md hCf) (by rw [e, md_7])⟩) (fun hw => s239_99 ⟨i01.2, fun _ => ?_, fun h => by omega⟩)
      rw [hw] at K0' K1' K2'
      clear fail1
      rw [md_8]
      generalize rBN (C 135) (C 133 3) 3 (C 133 7) 0 = q at K0' K1' K2' b1 hw
      have n1' : mfr M (fx_up (md C q.2.1 q.1) 133 20 q.1) := mfr_up (by omega) (mfr_md hCf)
      have n2' : (fx_up (md C q.2.1 q.1) 133 20 q.1) 133 7 = q.2.1 := by rw [fx_up_nk (by decide), md_7]
      have n3' : (fx_up (md C q.2.1 q.1) 133 20 q.1) 133 20 = q.1 := fx_up_self _ _ _ _
      have hCb := ms_p hC
      have n4' : ms_at (fx_up (md C q.2.1 q.1) 133 20 q.1) := ms_up (ms_md hC (by omega)) (by decide) (by omega)
      have n5' : (fx_up (md C q.2.1 q.1) 133 20 q.1) 135 = C 135 := by
        funext j
        rw [fx_up_na (by decide), md_g.1]
      have n6' : (fx_up (md C q.2.1 q.1) 133 20 q.1) 133 3 = C 133 3 := by rw [fx_up_nk (by decide), md_g.2]
      generalize fx_up (md C q.2.1 q.1) 133 20 q.1 = N at n1' n2' n3' n4' n5' n6'
      rw [← n5', ← n6', ← n2'] at K0' K1' K2'
      have b2 := rBN_b (g := N 135) (e := N 133 3) (m := 1) (p := N 133 7) (w := 0) (by omega) (by have := ms_p n4'; omega)
      refine sp_bd1 (S := fun v M1 => wp kc (d + 7) 239 125 [some (jR 133), some (jI u), none, some (jI (if 0 ≤ u ∧ rf = 0 then (1 : Int) else 0))] (v.toList ++ []) M1 Q) n4' (fun hw2 M1 e => s239_118 ⟨i01.1, fun _ => K0' hw2 _ (by rw [e]; exact mfr_md n1') (by rw [e, md_7]), fun h => absurd rfl h⟩) (fun M1 hz => s239_118 ⟨i01.2, fun h => by omega, fun _ => hz⟩) (fun hw2 M1 e => s239_125 ⟨i01.1, fun h => absurd rfl h, fun _ => K0' hw2 _ (by rw [e]; exact mfr_md n1') (by rw [e, md_7])⟩) (fun hw2 => s239_125 ⟨i01.2, fun _ => ⟨hdi, fun hd => ?_, fun hd => ?_⟩, fun h => by omega⟩)
      · refine K1' hw2 (fun hx => ?_) _ (mfr_md n1') (md_7 _ _ _)
        rw [if_pos hx] at hd
        omega
      · have hy : 0 ≤ u ∧ rf = 0 := by
          by_cases hx : 0 ≤ u ∧ rf = 0
          · exact hx
          · rw [if_neg hx] at hd
            exact absurd rfl hd
        have hD := (h.2.2.2.2.2 hy.1)
        rw [md_ne (by omega), n3', md_8]
        have hmD : mz (md N (rBN (N 135) (N 133 3) 1 (N 133 7) 0).2.1 (rBN (N 135) (N 133 3) 1 (N 133 7) 0).1) u Z := mz_mfr hD.2 (mfr_md n1') hD.1
        refine sp_mgiveQ ⟨hy.1, hu10⟩ hmD hD.2 ⟨by omega, by omega⟩ ⟨by omega, by omega⟩ (by omega) (fun P m1 m2 m3 => s239_148 ?_)
        refine K2' hw2 hy _ P _ _ (mfr_md n1') (md_7 _ _ _) ?_ m1 m2 (ufr_ufr2 m3)
        unfold q_op
        rw [if_neg (by dsimp only; omega), if_neg (by dsimp only; omega)]
    · rw [if_neg (by omega), if_pos (by omega)] at K0' K1' K2'
      generalize md M c.2.1 (M 133 8) = C at hC hCf g1 g2 g7
      rw [← g1, ← g2, ← g7] at K0' K1' K2'
      have hCb := ms_p hC
      have hsb := rSd_b (g := C 135) (e := C 133 3) (p := C 133 7) (w := 0) (by omega)
      have hkb := rK_b (g := C 135) (e := C 133 3) (bs := bsK) (p := (rSd (C 135) (C 133 3) (C 133 7) 0).2.1) (w := (rSd (C 135) (C 133 3) (C 133 7) 0).2.2) (by omega)
      refine sp_scanEach hC (fun w0 s0 s3 j0 j8 N hN n7 n14 n10 n11 => s239_62 ⟨i01.2, fun _ => ⟨hdi, fun hd => ?_, fun hd => ?_⟩, fun h => by omega⟩) (fun w1 N hN n7 => s239_62 ⟨i01.1, fun h => absurd rfl h, fun _ => K0' w1 N (mfr_tr hCf hN) n7⟩)
      · refine K1' w0 (fun hx => ?_) _ (mfr_tr hCf hN) n7
        rw [if_pos hx] at hd
        omega
      · have hy : 0 ≤ u ∧ rf = 0 := by
          by_cases hx : 0 ≤ u ∧ rf = 0
          · exact hx
          · rw [if_neg hx] at hd
            exact absurd rfl hd
        have hD := (h.2.2.2.2.2 hy.1)
        refine sp_maddEachQ ⟨hy.1, hu10⟩ (mz_mfr hD.2 (mfr_tr hCf hN) hD.1) hD.2 ⟨s0, s3⟩ ⟨j0, j8⟩ ⟨hkb.2.2.1, hkb.2.2.2.1⟩ n10 n11 n14 (fun P m1 m2 m3 => s239_77 ?_)
        refine K2' w0 hy N P _ _ (mfr_tr hCf hN) n7 ?_ m1 m2 m3
        unfold q_op
        rw [if_neg (by dsimp only; omega), if_pos rfl]
    · rw [if_pos (by omega)] at K0' K1' K2'
      generalize md M c.2.1 (M 133 8) = C at hC hCf g1 g2 g7
      rw [← g1, ← g2, ← g7] at K0' K1' K2'
      have hCb := ms_p hC
      have hkb := rK_b (g := C 135) (e := C 133 3) (bs := bsK) (p := C 133 7) (w := 0) (by omega)
      have hrl := rR_l (g := C 135) (e := C 133 3) ((C 133 3 - (rK (C 135) (C 133 3) bsK (C 133 7) 0).2.2.1).toNat + 1) true (rK (C 135) (C 133 3) bsK (C 133 7) 0).2.2.1 (rK (C 135) (C 133 3) bsK (C 133 7) 0).2.2.2 (by omega)
      refine sp_scanRule hC (fun w0 j0 j8 N hN n7 n10 n11 n12 nl => s239_33 ⟨i01.2, fun _ => ⟨hdi, fun hd => ?_, fun hd => ?_⟩, fun h => by omega⟩) (fun w1 N hN n7 => s239_33 ⟨i01.1, fun h => absurd rfl h, fun _ => K0' w1 N (mfr_tr hCf hN) n7⟩)
      · refine K1' w0 (fun hx => ?_) _ (mfr_tr hCf hN) n7
        rw [if_pos hx] at hd
        omega
      · have hy : 0 ≤ u ∧ rf = 0 := by
          by_cases hx : 0 ≤ u ∧ rf = 0
          · exact hx
          · rw [if_neg hx] at hd
            exact absurd rfl hd
        have hD := (h.2.2.2.2.2 hy.1)
        have hl1 := rR_1 w0
        refine sp_maddRuleQ (k := (rK (C 135) (C 133 3) bsK (C 133 7) 0).1) ⟨hy.1, hu10⟩ (mz_mfr hD.2 (mfr_tr hCf hN) hD.1) hD.2 ⟨j0, j8⟩ ⟨hkb.2.2.1, hkb.2.2.2.1⟩ hl1 (by omega) n10 n11 n12 nl hrl.1 (fun P m1 m2 m3 => s239_48 ?_)
        refine K2' w0 hy N P _ _ (mfr_tr hCf hN) n7 ?_ m1 m2 (ufr_ufr2 m3)
        unfold q_op
        rw [if_pos rfl]
  · have hc0 := rC_n w1
    unfold rPt at K0'
    rw [w1] at K0'
    generalize rC (M 135) (M 133 3) bsP (M 133 7) 0 = c at K0' hcb w1 hc0
    rw [if_neg (by omega), if_neg (by omega), rBN_w, rBN_w] at K0'
    have m23 : (md M c.2.1 (M 133 8)) 133 23 = rf := by rw [md_ne (by omega), h23]
    refine s239_6 ?_
    rw [m23]
    exact ⟨⟨by omega, by omega⟩, fun _ => ⟨by omega, by omega⟩, ⟨by omega, by omega⟩, fun _ => ⟨⟨by omega, by omega⟩, fun _ => ⟨⟨by omega, by omega⟩, fun _ => K0' rfl _ (mfr_md (mfr_rf M)) (md_7 _ _ _), fun h => by omega⟩, fun h => by omega⟩, fun h => by omega⟩
end MTT
