/-! REQUESTS, the class: remove. -/
def rq_remove (g : Int → Int) (n p : Int) (S : HS) : Int × Int × List Int × HS := ((rBM g n p 0).1 + (rBM g n p 0).2.1, (rBM g n p 0).2.2, bkS S (if opF g n p S < 0 then (t_no 1851878757, S) else (t_ok, (S.1, S.2.1, S.2.2.1, S.2.2.2.1, bCut S.2.2.2.2.1 (rtD S.2.2.2.2.1 (opF g n p S) 0 0), wLog S.2.2.2.2.1 (rtD S.2.2.2.2.1 (opF g n p S) 0 0)))))
section RQU
variable {L : Nat} {xs : Nat → Int32} {d : Nat} {M : fx_M} {Q : Option fx_V → fx_M → Prop} {S : HS} {k : Nat}
/-- the book has been written -/
theorem fi_bk {N M' : fx_M} {D : List (Int × Int)} {cs : List Int} (hS : cRl N S) (hk : ct_ok k S.2.2.1) (h30 : N 3 1 = 0) (hl : cs.length ≤ 5600) (hw : cwSt S.2.2.2.2.1 D N M') : cRl (o_app M' 3 cs) (S.1, S.2.1, S.2.2.1, S.2.2.2.1, bCut S.2.2.2.2.1 D, wLog S.2.2.2.2.1 D) ∧ ctx (o_app M' 3 cs) cs ∧ cEnd N (o_app M' 3 cs) := by
  obtain ⟨w1, w2, w3⟩ := hw
  obtain ⟨h1, ⟨Y, y1, y2⟩, h3, h4, h5, h6, h7⟩ := hS
  have f : ∀ c j, c ≠ 3 → c ≠ 4 → ¬ (c = 125 ∧ j = 2) → c ≠ 126 → c ≠ 127 → c ≠ 128 → (o_app M' 3 cs) c j = N c j := fun c j b1 b2 b3 b4 b5 b6 => by rw [o_app_ne b1 b2, w3 c j b3 b4 b5 b6]
  refine ⟨⟨cz_fr h1 (fun c j b1 b2 => f c j (by omega) (by omega) (by omega) (by omega) (by omega) (by omega)), ⟨Y, cz_fr y1 (fun c j b1 b2 => f c j (by omega) (by omega) (by omega) (by omega) (by omega) (by omega)), y2⟩, cpv_fr h3 (fun c j b1 b2 => f c j (by omega) (by omega) (by omega) (by omega) (by omega) (by omega)), cct_fr h4 hk (fun c j b1 => f c j (by omega) (by omega) (by omega) (by omega) (by omega) (by omega)), (f 125 1 (by omega) (by omega) (by omega) (by omega) (by omega) (by omega)).trans h5, ?_, clg_fr w2 (fun c j b1 b2 => o_app_ne (by omega) (by omega))⟩, ctx_app (by rw [w3 3 1 (by omega) (by omega) (by omega) (by omega), h30]) hl, fun c j hc => f c j (by omega) (by omega) (by omega) (by omega) (by omega) (by omega)⟩
  show (o_app M' 3 cs) 126 = bCut S.2.2.2.2.1 D
  rw [← w1]
  funext j
  exact o_app_ne (by decide) (by decide)
theorem cw_remove {n p : Int} (h : cIn M n p 0) (hS : cRl M S) (hk : hOk k S) (K : ∀ M', cRl M' (fnR n S (rq_remove (M 2) n p S)).2 → ctx M' (fnR n S (rq_remove (M 2) n p S)).1 → cEnd M M' → Q none M') : wp (kcs L xs) (d + 25) 17 22 [some (jR 0), some (jI n), none] [jI 38] M Q := by
  obtain ⟨c0, c1, c2, c3, c4, c5, c6, c7⟩ := cin_b h
  refine s17_22 (ca_nm (d := d + 18) (Or.inr (Or.inr rfl)) c0 (fun A n0 ng a1 a2 a3 a4 => ?_))
  rw [c1, c2, c3] at a1 a2 a3 a4
  have mb := rBM_0 (g := M 2) (n := n) (p := p) (w := 0) c6
  have hN := cR_aG hS hk.2.2.2.2.1 ng
  refine cw_fin (d := d + 20) (r := rq_remove (M 2) n p S) ⟨by omega, by omega⟩ ⟨by omega, by omega⟩ hN hk (aF_end (aG_F ng)) a1 (show 0 ≤ (rBM (M 2) n p 0).1 + (rBM (M 2) n p 0).2.1 ∧ (rBM (M 2) n p 0).1 + (rBM (M 2) n p 0).2.1 ≤ 5606 by omega) a2 (show (rBM (M 2) n p 0).2.2 = 0 ∨ (rBM (M 2) n p 0).2.2 = 1 by omega) K (fun e3 e1 hSN h30 hO R hR => ⟨fun h => by omega, fun _ h => by omega, fun _ h => by omega, fun _ h => by omega, fun _ h => by omega, fun _ h => by omega, fun _ ho => ?_, fun _ ho _ _ => ?_⟩)
  · have eo : S.2.2.2.1 = 1 := by omega
    have hl1 := mb.2.2.2.2.2 e3
    have eg : A 2 = M 2 := (aG_2 ng).1
    have hsq : sq (fx_up A 3 1 0) := sc_at_up n0 (by decide) (by omega)
    have eg2 : (fx_up A 3 1 0) 2 = M 2 := by
      rw [← eg]
      funext j
      exact fx_up_na (by decide)
    have hsn : snm (fx_up A 3 1 0) (stN (M 2) n p) := by
      have := sn_of hsq (a := (rBM (M 2) n p 0).1) (l := (rBM (M 2) n p 0).2.1) (by rw [fx_up_na (by decide)]; exact a3) (by rw [fx_up_na (by decide)]; exact a4) (by omega) (by omega) (by omega)
      rw [eg2] at this
      exact this
    have hnm : nm_ok (stN (M 2) n p) := by
      have := nm_of hsq (a := (rBM (M 2) n p 0).1) (l := (rBM (M 2) n p 0).2.1) (by omega) (by omega) (by omega)
      rw [eg2] at this
      exact this
    have ef : bFd S.2.2.2.2.1 (stN (M 2) n p) (S.2.2.2.2.1 (bRt S.2.2.2.2.1)).toNat 0 = opF (M 2) n p S := rfl
    have hH := bMd_H (hk.2.2.2.2.2.2.2.1 eo)
    refine s190 ⟨⟨by omega, by omega⟩, fun h => by omega, fun h => by omega, fun _ => ?_, fun h => by omega, fun h => by omega, fun h => by omega, fun h => by omega, fun h => by omega, fun h => by omega⟩
    refine sp_remove (d := d + 19) hsn hnm hSN.2.2.2.2.2.1 hk.2.2.2.2.2.2.1 hH (fun hlt => s190_153 ?_) (fun hge M' hm => s190_153 ?_)
    · rw [ef] at hlt
      have et : (rq_remove (M 2) n p S).2.2 = (t_no 1851878757, S) := by
        unfold rq_remove bkS
        rw [if_neg (by omega), if_pos hlt]
      rw [et] at hR
      have es : ([110, 111, 32, 110, 97, 109, 101] : List Int32).map Int32.toInt = t_no 1851878757 := by decide +kernel
      refine ⟨⟨by omega, by omega⟩, fun _ => sp_puts (d := d + 19) fx_out3 lt_1000149 hO (s190_168 ?_), fun h => absurd rfl h⟩
      rw [es]
      obtain ⟨r1, r2, r3⟩ := fi_wr (cs := t_no 1851878757) hSN hk.2.2.2.2.1 h30 (Nat.le_trans t_no_len (by omega)) cwr_o
      exact hR _ r1 r2 r3
    · rw [ef] at hge hm
      have et : (rq_remove (M 2) n p S).2.2 = (t_ok, (S.1, S.2.1, S.2.2.1, S.2.2.2.1, bCut S.2.2.2.2.1 (rtD S.2.2.2.2.1 (opF (M 2) n p S) 0 0), wLog S.2.2.2.2.1 (rtD S.2.2.2.2.1 (opF (M 2) n p S) 0 0))) := by
        unfold rq_remove bkS
        rw [if_neg (by omega), if_neg (by omega)]
      rw [et] at hR
      obtain ⟨r1, r2, r3⟩ := fi_bk (cs := t_ok) hSN hk.2.2.2.2.1 h30 (by decide) hm
      refine ⟨⟨by omega, by omega⟩, fun h => by omega, fun _ => sp_puts (d := d + 19) fx_out3 lt_1000063 (ca_ok0 (by rw [hm.2.2 3 1 (by omega) (by omega) (by omega) (by omega), h30])) (s190_168 ?_)⟩
      rw [t_ok_s]
      exact hR _ r1 r2 r3
  · have et : (rq_remove (M 2) n p S).2.2 = (wls 1936225652, S) := by
      unfold rq_remove bkS
      rw [if_pos ho]
    rw [et] at hR
    obtain ⟨r1, r2, r3⟩ := fi_wr (cs := wls 1936225652) hSN hk.2.2.2.2.1 h30 (Nat.le_trans wls_8 (by omega)) cwr_o
    exact hR _ r1 r2 r3
end RQU
