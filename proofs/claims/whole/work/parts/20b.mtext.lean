/-! TEXTS read: a whole text (the reference). -/
def mTx (u : Int) (g : Int → Int) (e : Int) : Nat → Int → Int → Int → PZ → Int × Int × Int × PZ
  | 0, p, w, rf, Z => (p, w, rf, Z)
  | f + 1, p, w, rf, Z => if w = 0 ∧ p < e ∧ g p = 59 then (if (rPt g e (p + 1)).2.2 = 0 then mTx u g e f (rPt g e (p + 1)).2.1 (rPt g e (p + 1)).2.2 (mq u rf Z (rPt g e (p + 1)).1).1 (mq u rf Z (rPt g e (p + 1)).1).2 else mTx u g e f (rPt g e (p + 1)).2.1 (rPt g e (p + 1)).2.2 rf Z) else (p, w, rf, Z)
theorem mTx_eq {u : Int} (hu : 0 ≤ u) {g : Int → Int} {e : Int} : ∀ (f : Nat) (p w rf : Int) (Z : PZ), mTx u g e f p w rf Z = rTx g e f p w rf Z
  | 0, _, _, _, _ => rfl
  | f + 1, p, w, rf, Z => by
    unfold mTx rTx mq
    by_cases hc : w = 0 ∧ p < e ∧ g p = 59
    · rw [if_pos hc, if_pos hc]
      by_cases h0 : (rPt g e (p + 1)).2.2 = 0
      · rw [if_pos h0]
        by_cases hr : rf = 0
        · rw [if_pos ⟨hu, hr⟩, if_pos ⟨h0, hr⟩]
          exact mTx_eq hu f _ _ _ _
        · rw [if_neg (fun h => hr h.2), if_neg (fun h => hr h.2)]
          exact mTx_eq hu f _ _ _ _
      · rw [if_neg h0, if_neg (fun h => h0 h.1)]
        exact mTx_eq hu f _ _ _ _
    · rw [if_neg hc, if_neg hc]
/-- where a text ends does not hang on what is done -/
theorem rTx_pw {g : Int → Int} {e : Int} : ∀ (f : Nat) (p w rf rf' : Int) (Z Z' : PZ), (rTx g e f p w rf Z).1 = (rTx g e f p w rf' Z').1 ∧ (rTx g e f p w rf Z).2.1 = (rTx g e f p w rf' Z').2.1
  | 0, _, _, _, _, _, _ => ⟨rfl, rfl⟩
  | f + 1, p, w, rf, rf', Z, Z' => by
    unfold rTx
    by_cases hc : w = 0 ∧ p < e ∧ g p = 59
    · rw [if_pos hc, if_pos hc]
      (repeat' split) <;> exact rTx_pw f _ _ _ _ _ _
    · rw [if_neg hc, if_neg hc]
      exact ⟨rfl, rfl⟩
theorem mTx_pw {u : Int} {g : Int → Int} {e : Int} : ∀ (f : Nat) (p w rf rf' : Int) (Z Z' : PZ), (mTx u g e f p w rf Z).1 = (rTx g e f p w rf' Z').1 ∧ (mTx u g e f p w rf Z).2.1 = (rTx g e f p w rf' Z').2.1
  | 0, _, _, _, _, _, _ => ⟨rfl, rfl⟩
  | f + 1, p, w, rf, rf', Z, Z' => by
    unfold mTx rTx
    by_cases hc : w = 0 ∧ p < e ∧ g p = 59
    · rw [if_pos hc, if_pos hc]
      (repeat' split) <;> exact mTx_pw f _ _ _ _ _ _
    · rw [if_neg hc, if_neg hc]
      exact ⟨rfl, rfl⟩
theorem mTx_w {u : Int} {g : Int → Int} {e : Int} {f : Nat} {p rf : Int} {Z : PZ} : mTx u g e f p 1 rf Z = (p, 1, rf, Z) := by
  cases f with
  | zero => rfl
  | succ f =>
    unfold mTx
    rw [if_neg (by omega)]
/-- a text as the reference reads it -/
def mText (u : Int) (g : Int → Int) (e p : Int) (Z : PZ) : Int × Int × Int × PZ :=
  if (rZ3 g e (rC g e bsN p 0).2.1 (rC g e bsN p 0).2.2).2.2 = 0 ∧ 0 ≤ u then
    mTx u g e ((e - (rZ3 g e (rC g e bsN p 0).2.1 (rC g e bsN p 0).2.2).2.1).toNat + 1) (rZ3 g e (rC g e bsN p 0).2.1 (rC g e bsN p 0).2.2).2.1 (rZ3 g e (rC g e bsN p 0).2.1 (rC g e bsN p 0).2.2).2.2 (q_size Z (rZ1 g e (rC g e bsN p 0).2.1 (rC g e bsN p 0).2.2).1 (rZ2 g e (rC g e bsN p 0).2.1 (rC g e bsN p 0).2.2).1 (rZ3 g e (rC g e bsN p 0).2.1 (rC g e bsN p 0).2.2).1).1 (q_size Z (rZ1 g e (rC g e bsN p 0).2.1 (rC g e bsN p 0).2.2).1 (rZ2 g e (rC g e bsN p 0).2.1 (rC g e bsN p 0).2.2).1 (rZ3 g e (rC g e bsN p 0).2.1 (rC g e bsN p 0).2.2).1).2
  else mTx u g e ((e - (rZ3 g e (rC g e bsN p 0).2.1 (rC g e bsN p 0).2.2).2.1).toNat + 1) (rZ3 g e (rC g e bsN p 0).2.1 (rC g e bsN p 0).2.2).2.1 (rZ3 g e (rC g e bsN p 0).2.1 (rC g e bsN p 0).2.2).2.2 0 Z
theorem mText_eq {u : Int} (hu : 0 ≤ u) {g : Int → Int} {e p : Int} {Z : PZ} : mText u g e p Z = rText g e p 0 0 Z := by
  unfold mText rText
  by_cases h : (rZ3 g e (rC g e bsN p 0).2.1 (rC g e bsN p 0).2.2).2.2 = 0
  · rw [if_pos ⟨h, hu⟩, if_pos ⟨h, rfl⟩, mTx_eq hu]
  · rw [if_neg (fun hx => h hx.1), if_neg (fun hx => h hx.1), mTx_eq hu]
theorem mText_pw {u : Int} {g : Int → Int} {e p rf : Int} {Z Z' : PZ} : (mText u g e p Z).1 = (rText g e p 0 rf Z').1 ∧ (mText u g e p Z).2.1 = (rText g e p 0 rf Z').2.1 := by
  unfold mText rText
  (repeat' split) <;> exact mTx_pw _ _ _ _ _ _ _
theorem rZ_w {g : Int → Int} {e p : Int} : rZ3 g e p 1 = (0, p, 1) := by
  unfold rZ3 rZ2 rZ1
  rw [rBN_w, rBN_w, rBN_w]
section MTU
variable {kc : List va_E} {d : Nat} {Q : Option fx_V → fx_M → Prop} {u : Int}
theorem mtx_loop (hul : -1 ≤ u) : ∀ (f : Nat) (M : fx_M) (rf : Int) (Z : PZ), mtx M u rf Z → M 133 3 - M 133 7 < f → ((mTx u (M 135) (M 133 3) f (M 133 7) 0 rf Z).2.1 = 0 → ∀ M', mtx M' u (mTx u (M 135) (M 133 3) f (M 133 7) 0 rf Z).2.2.1 (mTx u (M 135) (M 133 3) f (M 133 7) 0 rf Z).2.2.2 → M' 133 7 = (mTx u (M 135) (M 133 3) f (M 133 7) 0 rf Z).1 → mtf u M M' → Q (some (jI 1)) M') → ((mTx u (M 135) (M 133 3) f (M 133 7) 0 rf Z).2.1 = 1 → ∀ M', ms_at M' → M' 133 7 = (mTx u (M 135) (M 133 3) f (M 133 7) 0 rf Z).1 → mtf u M M' → Q (some (jI 0)) M') → wp kc (d + 8) 238 48 [some (jR 133), some (jI u)] [] M Q := by
  intro f
  induction f with
  | zero =>
    intro M rf Z h hf K1 K0
    have := ms_p h.1
    omega
  | succ f ih =>
    intro M rf Z h hf K1 K0
    have hb := ms_p h.1
    have hh := here_in h.1
    refine s238_48 (sp_here h.1 (s238_52 ⟨hh, fun hne => ?_, fun he => ?_⟩))
    · have hn : ¬ ((0 : Int) = 0 ∧ M 133 7 < M 133 3 ∧ M 135 (M 133 7) = 59) := fun hx => hne (by rw [if_pos hx.2.1]; exact hx.2.2)
      have e : mTx u (M 135) (M 133 3) (f + 1) (M 133 7) 0 rf Z = (M 133 7, 0, rf, Z) := by rw [mTx, if_neg hn]
      rw [e] at K1
      exact K1 rfl M h rfl (mtf_rf u M)
    · by_cases hp : M 133 7 < M 133 3
      · rw [if_pos hp] at he
        have eT : mTx u (M 135) (M 133 3) (f + 1) (M 133 7) 0 rf Z = if (rPt (M 135) (M 133 3) (M 133 7 + 1)).2.2 = 0 then mTx u (M 135) (M 133 3) f (rPt (M 135) (M 133 3) (M 133 7 + 1)).2.1 (rPt (M 135) (M 133 3) (M 133 7 + 1)).2.2 (mq u rf Z (rPt (M 135) (M 133 3) (M 133 7 + 1)).1).1 (mq u rf Z (rPt (M 135) (M 133 3) (M 133 7 + 1)).1).2 else mTx u (M 135) (M 133 3) f (rPt (M 135) (M 133 3) (M 133 7 + 1)).2.1 (rPt (M 135) (M 133 3) (M 133 7 + 1)).2.2 rf Z := by rw [mTx, if_pos ⟨rfl, hp, he⟩]
        rw [eT] at K1 K0
        have hpb := rPt_b (g := M 135) (e := M 133 3) (p := M 133 7 + 1) (by omega)
        rw [md_p]
        have hM1 := mtx_read (N := md M (M 133 7 + 1) (M 133 8)) h (mfr_md (mfr_rf M)) (by rw [md_7]; omega)
        have g1 : (md M (M 133 7 + 1) (M 133 8)) 135 = M 135 := md_g.1
        have g2 : (md M (M 133 7 + 1) (M 133 8)) 133 3 = M 133 3 := md_g.2
        refine sp_scanPart hM1 hul ?_ ?_
        · rw [g1, g2, md_7]
          intro w0 M' m1 m2 m3
          rw [if_pos w0] at K1 K0
          have m3' : mtf u M M' := mtf_tr (mtf_mfr (mfr_md (mfr_rf M))) m3
          have e3 : M' 133 3 = M 133 3 := m3' 133 3 (by omega) (by decide) (by unfold ucell; omega)
          have e5 : M' 135 = M 135 := by
            funext j
            exact m3' 135 j (by omega) (by decide) (by unfold ucell; omega)
          refine s238_72 ⟨i01.2, fun _ => ?_, fun h => by omega⟩
          refine ih M' _ _ m1 (by omega) ?_ ?_
          · rw [e3, e5, m2]
            rw [w0] at K1
            exact fun a1 P b1 b2 b3 => K1 a1 P b1 b2 (mtf_tr m3' b3)
          · rw [e3, e5, m2]
            rw [w0] at K0
            exact fun a1 P b1 b2 b3 => K0 a1 P b1 b2 (mtf_tr m3' b3)
        · rw [g1, g2, md_7]
          intro w1 M' m1 m2 m3
          rw [if_neg (by omega), w1, mTx_w] at K0
          exact s238_72 ⟨i01.1, fun h => absurd rfl h, fun _ => K0 rfl M' m1 m2 (mtf_tr (mtf_mfr (mfr_md (mfr_rf M))) m3)⟩
      · rw [if_neg hp] at he
        omega
/-- scanText -/
theorem sp_scanText {M : fx_M} {Z : PZ} (hul : -1 ≤ u) (h : mtx (fx_up M 133 23 0) u 0 Z) (K1 : (mText u (M 135) (M 133 3) (M 133 7) Z).2.1 = 0 → ∀ M', mtx M' u (mText u (M 135) (M 133 3) (M 133 7) Z).2.2.1 (mText u (M 135) (M 133 3) (M 133 7) Z).2.2.2 → M' 133 7 = (mText u (M 135) (M 133 3) (M 133 7) Z).1 → mtf u M M' → Q (some (jI 1)) M') (K0 : (mText u (M 135) (M 133 3) (M 133 7) Z).2.1 = 1 → ∀ M', ms_at M' → M' 133 7 = (mText u (M 135) (M 133 3) (M 133 7) Z).1 → mtf u M M' → Q (some (jI 0)) M') : wc kc (d + 8) 238 [jR 133, jI u] M Q := by
  have hb := ms_p h.1
  have s7 : (fx_up M 133 23 0) 133 7 = M 133 7 := fx_up_nk (by decide)
  have s3 : (fx_up M 133 23 0) 133 3 = M 133 3 := fx_up_nk (by decide)
  have s5 : (fx_up M 133 23 0) 135 = M 135 := by
    funext j
    exact fx_up_na (by decide)
  have sf : mtf u M (fx_up M 133 23 0) := mtf_up (by omega) (mtf_rf u M)
  rw [← s7, ← s3, ← s5] at K1 K0
  rw [s7, s3] at hb
  refine s238 ?_
  generalize fx_up M 133 23 0 = S at h s7 s3 s5 sf K1 K0
  have hb := ms_p h.1
  have hu10 : u < 10 := h.2.2.2.2.1
  have hcb := rC_b (g := S 135) (e := S 133 3) (bs := bsN) (p := S 133 7) (w := 0) (by omega)
  unfold mText at K1 K0
  refine sp_scanW (bs := bsN) (pi := piN) (n := 1) (a := 0) (N := 1) swN (by omega) h.1 (by omega) (by omega) (by omega) (fun w0 k0 k1 p0 p1 => ?_) (fun w1 => ?_)
  · rw [w0] at K1 K0
    generalize hpi : piN.getD (rC (S 135) (S 133 3) bsN (S 133 7) 0).1.toNat 0 = v at p0 p1
    generalize rC (S 135) (S 133 3) bsN (S 133 7) 0 = c at K1 K0 hcb w0
    have hC := mtx_read (N := md S c.2.1 (S 133 8)) h (mfr_md (mfr_rf S)) (by rw [md_7]; omega)
    have hCf : mfr S (md S c.2.1 (S 133 8)) := mfr_md (mfr_rf S)
    have g1 : (md S c.2.1 (S 133 8)) 135 = S 135 := md_g.1
    have g2 : (md S c.2.1 (S 133 8)) 133 3 = S 133 3 := md_g.2
    have g7 : (md S c.2.1 (S 133 8)) 133 7 = c.2.1 := md_7 _ _ _
    refine s238_11 ⟨⟨by omega, by omega⟩, fun h => by omega, fun _ => ?_⟩
    generalize md S c.2.1 (S 133 8) = C at hC hCf g1 g2 g7
    rw [← g1, ← g2, ← g7] at K1 K0
    have hCb := ms_p hC.1
    have b1 := rBN_b (g := C 135) (e := C 133 3) (m := 1) (p := C 133 7) (w := 0) (by omega) (by omega)
    have b2 := rBN_b (g := C 135) (e := C 133 3) (m := 1) (p := (rZ1 (C 135) (C 133 3) (C 133 7) 0).2.1) (w := (rZ1 (C 135) (C 133 3) (C 133 7) 0).2.2) (by omega) (by unfold rZ1; omega)
    have b3 := rBN_b (g := C 135) (e := C 133 3) (m := 1) (p := (rZ2 (C 135) (C 133 3) (C 133 7) 0).2.1) (w := (rZ2 (C 135) (C 133 3) (C 133 7) 0).2.2) (by omega) (by unfold rZ2; omega)
    have e4 : ((10 ^ 1 : Nat) : Int) = 10 := rfl
    have z1b : 0 ≤ (rZ1 (C 135) (C 133 3) (C 133 7) 0).1 ∧ (rZ1 (C 135) (C 133 3) (C 133 7) 0).1 < 10 := by unfold rZ1; omega
    have z2b : 0 ≤ (rZ2 (C 135) (C 133 3) (C 133 7) 0).1 ∧ (rZ2 (C 135) (C 133 3) (C 133 7) 0).1 < 10 := by unfold rZ2; omega
    have z3b : 0 ≤ (rZ3 (C 135) (C 133 3) (C 133 7) 0).1 ∧ (rZ3 (C 135) (C 133 3) (C 133 7) 0).1 < 10 ∧ 0 ≤ (rZ3 (C 135) (C 133 3) (C 133 7) 0).2.1 ∧ (rZ3 (C 135) (C 133 3) (C 133 7) 0).2.1 ≤ C 133 3 := by
      have : (rZ2 (C 135) (C 133 3) (C 133 7) 0).2.1 ≥ 0 := by unfold rZ2 rZ1 at *; omega
      unfold rZ3
      omega
    refine sp_scanSizes hC.1 (fun w3 N hN n7 n17 n18 n19 => s238_18 ⟨i01.2, fun _ => ⟨⟨by omega, by omega⟩, fun hneg => ?_, fun hpos => ?_⟩, fun h => by omega⟩) (fun w3 N hN n7 => s238_18 ⟨i01.1, fun h => absurd rfl h, fun _ => ?_⟩)
    · rw [if_neg (by omega), w3] at K1 K0
      have hNm := mtx_read hC hN (by omega)
      have e3 : N 133 3 = C 133 3 := hN 133 3 (by omega) (by decide)
      have e5 : N 135 = C 135 := by
        funext j
        exact hN 135 j (by omega) (by decide)
      have nf : mtf u M N := mtf_tr sf (mtf_tr (mtf_mfr hCf) (mtf_mfr hN))
      refine mtx_loop hul ((C 133 3 - (rZ3 (C 135) (C 133 3) (C 133 7) 0).2.1).toNat + 1) N 0 Z hNm (by omega) ?_ ?_
      · rw [e3, e5, n7]
        exact fun a1 P b1 b2 b3 => K1 a1 P b1 b2 (mtf_tr nf b3)
      · rw [e3, e5, n7]
        exact fun a1 P b1 b2 b3 => K0 a1 P b1 b2 (mtf_tr nf b3)
    · rw [if_pos ⟨w3, hpos⟩, w3] at K1 K0
      have hNm := mtx_read hC hN (by omega)
      have e3 : N 133 3 = C 133 3 := hN 133 3 (by omega) (by decide)
      have e5 : N 135 = C 135 := by
        funext j
        exact hN 135 j (by omega) (by decide)
      have nf : mtf u M N := mtf_tr sf (mtf_tr (mtf_mfr hCf) (mtf_mfr hN))
      have hD := hNm.2.2.2.2.2 hpos
      rw [n17, n18, n19]
      refine sp_beginQ ⟨hpos, h.2.2.2.2.1⟩ hD.1 hD.2 ⟨by omega, by omega⟩ ⟨by omega, by omega⟩ ⟨by omega, by omega⟩ (fun P m1 m2 m3 => s238_45 ?_)
      have hqb : 0 ≤ (q_size Z (rZ1 (C 135) (C 133 3) (C 133 7) 0).1 (rZ2 (C 135) (C 133 3) (C 133 7) 0).1 (rZ3 (C 135) (C 133 3) (C 133 7) 0).1).1 ∧ (q_size Z (rZ1 (C 135) (C 133 3) (C 133 7) 0).1 (rZ2 (C 135) (C 133 3) (C 133 7) 0).1 (rZ3 (C 135) (C 133 3) (C 133 7) 0).1).1 ≤ 5 := by
        unfold q_size
        split <;> (dsimp only; omega)
      obtain ⟨t1, t2, t3⟩ := mtx_did hpos hNm hqb m1 m2 (ufr_ufr2 m3)
      generalize q_size Z (rZ1 (C 135) (C 133 3) (C 133 7) 0).1 (rZ2 (C 135) (C 133 3) (C 133 7) 0).1 (rZ3 (C 135) (C 133 3) (C 133 7) 0).1 = qs at K1 K0 t1 t2 t3
      have f3 : (fx_up P 133 23 qs.1) 133 3 = C 133 3 := by rw [t2 133 3 (by omega) (by decide) (by unfold ucell; omega), e3]
      have f5 : (fx_up P 133 23 qs.1) 135 = C 135 := by
        funext j
        rw [t2 135 j (by omega) (by decide) (by unfold ucell; omega), e5]
      refine mtx_loop hul ((C 133 3 - (rZ3 (C 135) (C 133 3) (C 133 7) 0).2.1).toNat + 1) _ qs.1 qs.2 t1 (by omega) ?_ ?_
      · rw [f3, f5, t3, n7]
        exact fun a1 X b1 b2 b3 => K1 a1 X b1 b2 (mtf_tr nf (mtf_tr t2 b3))
      · rw [f3, f5, t3, n7]
        exact fun a1 X b1 b2 b3 => K0 a1 X b1 b2 (mtf_tr nf (mtf_tr t2 b3))
    · rw [if_neg (by omega), w3, mTx_w] at K0
      have hNm := mtx_read hC hN (by omega)
      exact K0 rfl N hNm.1 n7 (mtf_tr sf (mtf_tr (mtf_mfr hCf) (mtf_mfr hN)))
  · rw [w1, rZ_w] at K0
    rw [if_neg (show ¬ ((1 : Int) = 0 ∧ 0 ≤ u) by omega), mTx_w] at K0
    generalize rC (S 135) (S 133 3) bsN (S 133 7) 0 = c at K0 hcb w1
    exact s238_11 ⟨⟨by omega, by omega⟩, fun _ => K0 rfl _ (ms_md h.1 (by omega)) (md_7 _ _ _) (mtf_tr sf (mtf_mfr (mfr_md (mfr_rf S)))), fun h => by omega⟩
end MTU
