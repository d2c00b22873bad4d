/-! REQUESTS, the class: form, vary, cover, barred; play. -/
section RQL
variable {L : Nat} {xs : Nat → Int32} {d : Nat} {M : fx_M} {Q : Option fx_V → fx_M → Prop} {S : HS} {k : Nat}
theorem pla_str {a : Nat} {r : Int} (h : pla a r) : ∃ bs : List Int32, fx_str (kcs L xs) a bs ∧ bs.map Int32.toInt = t_pt r := by
  rcases h with ⟨rfl, rfl⟩ | ⟨rfl, rfl⟩ | ⟨rfl, rfl⟩ | ⟨rfl, rfl⟩ | ⟨rfl, rfl⟩ | ⟨rfl, rfl⟩
  · exact ⟨_, lt_1000127, by decide +kernel⟩
  · exact ⟨_, lt_1000129, by decide +kernel⟩
  · exact ⟨_, lt_1000131, by decide +kernel⟩
  · exact ⟨_, lt_1000133, by decide +kernel⟩
  · exact ⟨_, lt_1000137, by decide +kernel⟩
  · exact ⟨_, lt_1000139, by decide +kernel⟩
theorem t_pt_len {r : Int} : (t_pt r).length ≤ 20 := by
  unfold t_pt
  split
  · decide
  · split
    · exact t_rf_len
    · split
      · exact Nat.le_trans wls_8 (by omega)
      · split
        · exact t_rf_len
        · split
          · exact Nat.le_trans wls_8 (by omega)
          · exact t_rf_len
theorem t_no_len {w : Int} : (t_no w).length ≤ 11 := by
  have := wls_8 (w := w)
  unfold t_no
  rw [List.length_append]
  simp only [List.length_cons, List.length_nil]
  omega
/-- the end of a request of play -/
theorem fi_pl {N M' V' : fx_M} {cs : List Int} (hS : cRl N S) (hk : ct_ok k S.2.2.1) (h30 : N 3 1 = 0) (hl : cs.length ≤ 5600) (hv : cpv M' V') (f : ∀ b j, ¬ (53 ≤ b ∧ b ≤ 61) → M' b j = N b j) : cRl (o_app M' 3 cs) (S.1, V', S.2.2) ∧ ctx (o_app M' 3 cs) cs ∧ cEnd N (o_app M' 3 cs) := by
  have g : ∀ b j, b ≠ 3 → b ≠ 4 → ¬ (53 ≤ b ∧ b ≤ 61) → (o_app M' 3 cs) b j = N b j := fun b j b1 b2 b3 => by rw [o_app_ne b1 b2, f b j b3]
  refine ⟨cRl_mk hS hk (cz_fr hS.1 (fun b j b1 b2 => g b j (by omega) (by omega) (by omega))) (cpv_fr hv (fun b j b1 b2 => o_app_ne (by omega) (by omega))) (fun b j hb => g b j (by omega) (by omega) (by omega)), ctx_app (by rw [f 3 1 (by omega), h30]) hl, fun b j hb => g b j (by omega) (by omega) (by omega)⟩
theorem cw_form {n p : Int} (h : cIn M n p 0) (hS : cRl M S) (hk : hOk k S) (K : ∀ M', cRl M' (fnR n S (rq_form p S)).2 → ctx M' (fnR n S (rq_form p S)).1 → cEnd M M' → Q none M') : wp (kcs L xs) (d + 25) 17 22 [some (jR 0), some (jI n), none] [jI 21] M Q := by
  refine cw_np (r := (rq_form p S).2.2) ⟨by omega, by omega⟩ (by unfold lgV; omega) (by omega) h hS hk K (fun hSN h30 R hR => ⟨fun h => by omega, fun _ h => by omega, fun _ h => by omega, fun _ _ => ?_, fun h => by omega, fun h => by omega, fun h => by omega, fun h => by omega⟩)
  refine s145 ⟨⟨by omega, by omega⟩, fun _ => ?_, fun h => by omega, fun h => by omega, fun h => by omega⟩
  refine sp_formTake (d := d + 19) frm40 puz11 (by decide) hSN.1 hk.1 hk.2.1 (fun N T G t1 t2 t3 => s145_39 ?_)
  obtain ⟨W, w1, w2, w3, w4⟩ := cfm_min hk.1 hk.2.1 t1 t2
  refine sp_restore (d := d + 20) frm40 w4 w2.1 w2.2 (fun P p1 p2 => s145_50 ?_)
  have f : ∀ b j, ¬ (20 ≤ b ∧ b ≤ 28) → ¬ (40 ≤ b ∧ b ≤ 44) → P b j = (fx_up M 3 1 0) b j := fun b j b1 b2 => by rw [p2 b j (by omega) b1, t3 b j (by omega) (by omega) (by omega) (by omega)]
  have p30 : P 3 1 = 0 := by rw [f 3 1 (by omega) (by omega), h30]
  refine sp_write (d := d + 17) puz20 fx_out3 w2.1 p1 (ca_ok0 p30) (s145_61 ?_)
  rw [← w3]
  have hl : (fmT S.1).length ≤ 5600 := by
    have := (tText_b w2.1).1
    rw [w3]
    omega
  have hP : cRl P S := cRl_sp hSN hk.2.2.2.2.1 ⟨W, p1, w2.1⟩ (fun b j hb => f b j (by omega) (by omega))
  obtain ⟨r1, r2, r3⟩ := fi_wr (cs := fmT S.1) hP hk.2.2.2.2.1 p30 hl cwr_o
  exact hR _ r1 r2 (cEnd_tr (fun b j hb => f b j (by omega) (by omega)) r3)
theorem cw_barred {n p : Int} (h : cIn M n p 0) (hS : cRl M S) (hk : hOk k S) (K : ∀ M', cRl M' (fnR n S (rq_barred p S)).2 → ctx M' (fnR n S (rq_barred p S)).1 → cEnd M M' → Q none M') : wp (kcs L xs) (d + 25) 17 22 [some (jR 0), some (jI n), none] [jI 24] M Q := by
  refine cw_np (r := (rq_barred p S).2.2) ⟨by omega, by omega⟩ (by unfold lgV; omega) (by omega) h hS hk K (fun hSN h30 R hR => ⟨fun h => by omega, fun _ h => by omega, fun _ h => by omega, fun _ _ => ?_, fun h => by omega, fun h => by omega, fun h => by omega, fun h => by omega⟩)
  refine s145 ⟨⟨by omega, by omega⟩, fun h => by omega, fun h => by omega, fun h => by omega, fun _ => ?_⟩
  refine sp_barred (d := d + 9) hk.1 hSN.1 (ca_ok0 h30) (fun M' hm => s145_145 ?_)
  obtain ⟨r1, r2, r3⟩ := fi_wr hSN hk.2.2.2.2.1 h30 (Nat.le_trans (tBar_len hk.1) (by omega)) hm
  exact hR _ r1 r2 r3
theorem cw_cover {n p : Int} (h : cIn M n p 0) (hS : cRl M S) (hk : hOk k S) (K : ∀ M', cRl M' (fnR n S (rq_cover (M 2) n p S)).2 → ctx M' (fnR n S (rq_cover (M 2) n p S)).1 → cEnd M M' → Q none M') : wp (kcs L xs) (d + 25) 17 22 [some (jR 0), some (jI n), none] [jI 23] M Q := by
  obtain ⟨c0, c1, c2, c3, c4, c5, c6, c7⟩ := cin_b h
  refine s17_22 (ca_n3 (d := d + 18) (Or.inr (Or.inr (Or.inl rfl))) c0 (fun A n0 ng a1 a2 a3 => ?_))
  rw [c1, c2, c3] at a1 a2 a3
  have nb := rBN_b (g := M 2) (e := n) (m := 3) (p := p) (w := 0) (by omega) c6
  have e10 := e3_10
  have e11 := e1_10
  have hN := cR_aG hS hk.2.2.2.2.1 ng
  refine cw_fin (d := d + 20) (r := rq_cover (M 2) n p S) ⟨by omega, by omega⟩ ⟨by omega, by omega⟩ hN hk (aF_end (aG_F ng)) a1 (show 0 ≤ (rBN (M 2) n 3 p 0).2.1 ∧ (rBN (M 2) n 3 p 0).2.1 ≤ 5606 by omega) a2 (show (rBN (M 2) n 3 p 0).2.2 = 0 ∨ (rBN (M 2) n 3 p 0).2.2 = 1 by omega) K (fun e3 e1 hSN h30 hO R hR => ⟨fun h => by omega, fun _ h => by omega, fun _ h => by omega, fun _ _ => ?_, fun h => by omega, fun h => by omega, fun h => by omega, fun h => by omega⟩)
  obtain ⟨a, ha⟩ : ∃ a : Nat, (rBN (M 2) n 3 p 0).1 = (a : Int) := ⟨(rBN (M 2) n 3 p 0).1.toNat, by omega⟩
  rw [ha] at nb a3
  have et : (rq_cover (M 2) n p S).2.2 = ((if 100 < (a : Int) then t_rf 3 else tCov S.1 a), S) := by
    unfold rq_cover
    rw [ha]
    rfl
  rw [et] at hR
  refine s145 ⟨⟨by omega, by omega⟩, fun h => by omega, fun h => by omega, fun _ => ?_, fun h => by omega⟩
  rw [up9, a3]
  refine sp_coverList (d := d + 6) hk.1 hSN.1 hO (n := a) (by omega) (fun hg => s145_135 ?_) (fun hg M' hm => s145_135 ?_)
  · rw [if_pos (by omega)] at hR
    rw [t_rf3]
    obtain ⟨r1, r2, r3⟩ := fi_wr (cs := t_rf 3) hSN hk.2.2.2.2.1 h30 (Nat.le_trans t_rf_len (by omega)) cwr_o
    exact hR _ r1 r2 r3
  · rw [if_neg (by omega)] at hR
    obtain ⟨r1, r2, r3⟩ := fi_wr hSN hk.2.2.2.2.1 h30 (Nat.le_trans (tCov_len hk.1 hg) (by omega)) hm
    exact hR _ r1 r2 r3
theorem cw_vary {n p : Int} (h : cIn M n p 0) (hS : cRl M S) (hk : hOk k S) (K : ∀ M', cRl M' (fnR n S (rq_vary (M 2) n p S)).2 → ctx M' (fnR n S (rq_vary (M 2) n p S)).1 → cEnd M M' → Q none M') : wp (kcs L xs) (d + 25) 17 22 [some (jR 0), some (jI n), none] [jI 22] M Q := by
  obtain ⟨c0, c1, c2, c3, c4, c5, c6, c7⟩ := cin_b h
  refine s17_22 (ca_n3 (d := d + 18) (Or.inr (Or.inl rfl)) c0 (fun A n0 ng a1 a2 a3 => ?_))
  rw [c1, c2, c3] at a1 a2 a3
  have nb := rBN_b (g := M 2) (e := n) (m := 3) (p := p) (w := 0) (by omega) c6
  have e10 := e3_10
  have e11 := e1_10
  have hN := cR_aG hS hk.2.2.2.2.1 ng
  refine cw_fin (d := d + 20) (r := rq_vary (M 2) n p S) ⟨by omega, by omega⟩ ⟨by omega, by omega⟩ hN hk (aF_end (aG_F ng)) a1 (show 0 ≤ (rBN (M 2) n 3 p 0).2.1 ∧ (rBN (M 2) n 3 p 0).2.1 ≤ 5606 by omega) a2 (show (rBN (M 2) n 3 p 0).2.2 = 0 ∨ (rBN (M 2) n 3 p 0).2.2 = 1 by omega) K (fun e3 e1 hSN h30 hO R hR => ⟨fun h => by omega, fun _ h => by omega, fun _ h => by omega, fun _ _ => ?_, fun h => by omega, fun h => by omega, fun h => by omega, fun h => by omega⟩)
  refine s145 ⟨⟨by omega, by omega⟩, fun h => by omega, fun _ => ?_, fun h => by omega, fun h => by omega⟩
  refine sp_copy (d := d + 22) puz20 puz11 (by decide) hSN.1 hk.1 (fun P p1 p2 => s145_75 ?_)
  rw [p2 9 0 (by omega), up9, a3]
  refine sp_cvary2 (d := d + 19) p1 hk.1 ⟨by omega, by omega⟩ (fun T t1 t2 => s145_99 ?_)
  have f : ∀ b j, ¬ (11 ≤ b ∧ b ≤ 28) → b ≠ 43 → b ≠ 44 → T b j = (fx_up A 3 1 0) b j := fun b j b1 b2 b3 => by rw [t2 b j b2 b3 (by omega), p2 b j (by omega)]
  refine sp_pbegin (d := d + 22) (cpv_fr hSN.2.2.1 (fun b j b1 b2 => f b j (by omega) (by omega) (by omega))) (fun W w1 w2 => s145_106 ?_)
  have g : ∀ b j, ¬ (11 ≤ b ∧ b ≤ 28) → b ≠ 43 → b ≠ 44 → ¬ (54 ≤ b ∧ b ≤ 57) → W b j = (fx_up A 3 1 0) b j := fun b j b1 b2 b3 b4 => by rw [w2 b j b4, f b j b1 b2 b3]
  have w30 : W 3 1 = 0 := by rw [g 3 1 (by omega) (by omega) (by omega) (by omega), h30]
  refine sp_puts (d := d + 19) fx_out3 lt_1000063 (ca_ok0 w30) (s145_116 ?_)
  rw [t_ok_s]
  have hz20 : cz W 20 S.1 := cz_fr p1 (fun b j b1 b2 => by rw [w2 b j (by omega), t2 b j (by omega) (by omega) (by omega)])
  have hW : cRl W (vrZ S.1 ((rBN (M 2) n 3 p 0).1 % mps S.1.1 S.1.2.1) ((rBN (M 2) n 3 p 0).1 / mps S.1.1 S.1.2.1 % (rgs S.1 : Nat)).toNat, pv_new S.2.1, S.2.2) := by
    obtain ⟨h1, h2, h3, h4, h5, h6, h7⟩ := hSN
    refine ⟨cz_fr t1 (fun b j b1 b2 => w2 b j (by omega)), ⟨S.1, hz20, hk.1⟩, w1, cct_fr h4 hk.2.2.2.2.1 (fun b j b1 => g b j (by omega) (by omega) (by omega) (by omega)), by rw [g _ _ (by omega) (by omega) (by omega) (by omega)]; exact h5, ?_, clg_fr h7 (fun b j b1 b2 => g b j (by omega) (by omega) (by omega) (by omega))⟩
    rw [← h6]
    funext j
    exact g 126 j (by omega) (by omega) (by omega) (by omega)
  obtain ⟨r1, r2, r3⟩ := fi_wr (cs := t_ok) hW hk.2.2.2.2.1 w30 (by decide) cwr_o
  exact hR _ r1 r2 (cEnd_tr (fun b j hb => g b j (by omega) (by omega) (by omega) (by omega)) r3)
end RQL
