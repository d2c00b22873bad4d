/-! REQUESTS, the class: cut, and taking an entry out. -/
def opF (g : Int → Int) (n p : Int) (S : HS) : Int := bFd S.2.2.2.2.1 (stN g n p) (S.2.2.2.2.1 (bRt S.2.2.2.2.1)).toNat 0
def rq_open (g : Int → Int) (n p : Int) (S : HS) : Int × Int × List Int × HS := ((rBM g n p 0).1 + (rBM g n p 0).2.1, (rBM g n p 0).2.2, bkS S (if opF g n p S < 0 then (t_no 1851878757, S) else (t_ok, (bZ S.2.2.2.2.1 (opF g n p S), pv_new S.2.1, S.2.2))))
section RQS
variable {L : Nat} {xs : Nat → Int32} {d : Nat} {M : fx_M} {Q : Option fx_V → fx_M → Prop} {S : HS} {k : Nat}
theorem cw_cut {n p : Int} (h : cIn M n p 0) (hS : cRl M S) (hk : hOk k S) (K : ∀ M', cRl M' (fnR n S (rq_cut (M 2) n p S)).2 → ctx M' (fnR n S (rq_cut (M 2) n p S)).1 → cEnd M M' → Q none M') : wp (kcs L xs) (d + 25) 17 22 [some (jR 0), some (jI n), none] [jI 40] M Q := by
  obtain ⟨c0, c1, c2, c3, c4, c5, c6, c7⟩ := cin_b h
  refine s17_22 (ca_n3 (d := d + 18) (Or.inr (Or.inr (Or.inr (Or.inr (Or.inr rfl))))) c0 (fun A n0 ng a1 a2 a3 => ?_))
  rw [c1, c2, c3] at a1 a2 a3
  have nb := rBN_b (g := M 2) (e := n) (m := 3) (p := p) (w := 0) (by omega) c6
  have e10 := e3_10
  have hN := cR_aG hS hk.2.2.2.2.1 ng
  refine cw_fin (d := d + 20) (r := rq_cut (M 2) n p S) ⟨by omega, by omega⟩ ⟨by omega, by omega⟩ hN hk (aF_end (aG_F ng)) a1 (show 0 ≤ (rBN (M 2) n 3 p 0).2.1 ∧ (rBN (M 2) n 3 p 0).2.1 ≤ 5606 by omega) a2 (show (rBN (M 2) n 3 p 0).2.2 = 0 ∨ (rBN (M 2) n 3 p 0).2.2 = 1 by omega) K (fun e3 e1 hSN h30 hO R hR => ⟨fun h => by omega, fun _ h => by omega, fun _ h => by omega, fun _ h => by omega, fun _ h => by omega, fun _ h => by omega, fun _ _ => ?_, fun _ _ h1 _ => absurd rfl h1⟩)
  obtain ⟨h1, ⟨Y, y1, y2⟩, h3, h4, h5, h6, h7⟩ := hSN
  have hop : (fx_up A 3 1 0) 125 1 = 0 ∨ (fx_up A 3 1 0) 125 1 = 1 := by rw [h5]; exact hk.2.2.2.2.2.1
  refine s190 ⟨⟨by omega, by omega⟩, fun h => by omega, fun h => by omega, fun h => by omega, fun h => by omega, fun _ => ?_, fun h => by omega, fun h => by omega, fun h => by omega, fun h => by omega⟩
  rw [up9, a3]
  refine sp_cut (d := d + 22) h6 h7 hk.2.2.2.2.2.2.2.2 hop (n := (rBN (M 2) n 3 p 0).1) ⟨by omega, by omega⟩ (fun hc => s190_234 ?_) (fun hc M' m1 m2 m3 => s190_234 ?_)
  · have hn : ¬ ctC S (rBN (M 2) n 3 p 0).1 := fun x => hc (by rw [h5]; exact x)
    have et : (rq_cut (M 2) n p S).2.2 = (t_no (wrd 41), S) := by
      unfold rq_cut
      rw [if_neg hn]
    rw [et] at hR
    have es : ([110, 111, 32, 99, 117, 116] : List Int32).map Int32.toInt = t_no (wrd 41) := by decide +kernel
    refine ⟨⟨by omega, by omega⟩, fun _ => sp_puts (d := d + 19) fx_out3 lt_1000171 hO (s190_249 ?_), fun h => absurd rfl h⟩
    rw [es]
    obtain ⟨r1, r2, r3⟩ := fi_wr (cs := t_no (wrd 41)) (S := S) ⟨h1, ⟨Y, y1, y2⟩, h3, h4, h5, h6, h7⟩ hk.2.2.2.2.1 h30 (Nat.le_trans t_no_len (by omega)) cwr_o
    exact hR _ r1 r2 r3
  · have hn : ctC S (rBN (M 2) n 3 p 0).1 := by
      rw [h5] at hc
      exact hc
    have et : (rq_cut (M 2) n p S).2.2 = (t_ok, (S.1, S.2.1, S.2.2.1, 0, bCut S.2.2.2.2.1 (S.2.2.2.2.2.drop (rBN (M 2) n 3 p 0).1.toNat), S.2.2.2.2.2)) := by
      unfold rq_cut
      rw [if_pos hn]
    rw [et] at hR
    have m30 : M' 3 1 = 0 := by rw [m3 3 1 (by decide) (by omega), h30]
    refine ⟨⟨by omega, by omega⟩, fun h => by omega, fun _ => sp_puts (d := d + 19) fx_out3 lt_1000063 (ca_ok0 m30) (s190_249 ?_)⟩
    rw [t_ok_s]
    have f : ∀ c j, c ≠ 3 → c ≠ 4 → c ≠ 126 → ¬ (c = 125 ∧ j = 1) → (o_app M' 3 t_ok) c j = (fx_up A 3 1 0) c j := fun c j b1 b2 b3 b4 => by rw [o_app_ne b1 b2, m3 c j b3 b4]
    refine hR _ ⟨cz_fr h1 (fun c j b1 b2 => f c j (by omega) (by omega) (by omega) (by omega)), ⟨Y, cz_fr y1 (fun c j b1 b2 => f c j (by omega) (by omega) (by omega) (by omega)), y2⟩, cpv_fr h3 (fun c j b1 b2 => f c j (by omega) (by omega) (by omega) (by omega)), cct_fr h4 hk.2.2.2.2.1 (fun c j b1 => f c j (by omega) (by omega) (by omega) (by omega)), (o_app_ne (by decide) (by decide)).trans m2, ?_, ⟨(f 125 2 (by omega) (by omega) (by omega) (by omega)).trans h7.1, fun i x hi => ⟨(f 127 _ (by omega) (by omega) (by omega) (by omega)).trans (h7.2 i x hi).1, (f 128 _ (by omega) (by omega) (by omega) (by omega)).trans (h7.2 i x hi).2⟩⟩⟩ (ctx_app m30 (by decide)) (fun c j hc => f c j (by omega) (by omega) (by omega) (by omega))
    show (o_app M' 3 t_ok) 126 = bCut S.2.2.2.2.1 (S.2.2.2.2.2.drop (rBN (M 2) n 3 p 0).1.toNat)
    rw [← m1]
    funext j
    exact o_app_ne (by decide) (by decide)
theorem cw_open {n p : Int} (h : cIn M n p 0) (hS : cRl M S) (hk : hOk k S) (K : ∀ M', cRl M' (fnR n S (rq_open (M 2) n p S)).2 → ctx M' (fnR n S (rq_open (M 2) n p S)).1 → cEnd M M' → Q none M') : wp (kcs L xs) (d + 25) 17 22 [some (jR 0), some (jI n), none] [jI 37] M Q := by
  obtain ⟨c0, c1, c2, c3, c4, c5, c6, c7⟩ := cin_b h
  refine s17_22 (ca_nm (d := d + 18) (Or.inr (Or.inl rfl)) c0 (fun A n0 ng a1 a2 a3 a4 => ?_))
  rw [c1, c2, c3] at a1 a2 a3 a4
  have mb := rBM_0 (g := M 2) (n := n) (p := p) (w := 0) c6
  have hN := cR_aG hS hk.2.2.2.2.1 ng
  refine cw_fin (d := d + 20) (r := rq_open (M 2) n p S) ⟨by omega, by omega⟩ ⟨by omega, by omega⟩ hN hk (aF_end (aG_F ng)) a1 (show 0 ≤ (rBM (M 2) n p 0).1 + (rBM (M 2) n p 0).2.1 ∧ (rBM (M 2) n p 0).1 + (rBM (M 2) n p 0).2.1 ≤ 5606 by omega) a2 (show (rBM (M 2) n p 0).2.2 = 0 ∨ (rBM (M 2) n p 0).2.2 = 1 by omega) K (fun e3 e1 hSN h30 hO R hR => ⟨fun h => by omega, fun _ h => by omega, fun _ h => by omega, fun _ h => by omega, fun _ h => by omega, fun _ h => by omega, fun _ ho => ?_, fun _ ho _ _ => ?_⟩)
  · have eo : S.2.2.2.1 = 1 := by omega
    have hl1 := mb.2.2.2.2.2 e3
    have eg : A 2 = M 2 := (aG_2 ng).1
    have hsq : sq (fx_up A 3 1 0) := sc_at_up n0 (by decide) (by omega)
    have eg2 : (fx_up A 3 1 0) 2 = M 2 := by
      rw [← eg]
      funext j
      exact fx_up_na (by decide)
    have hsn : snm (fx_up A 3 1 0) (stN (M 2) n p) := by
      have := sn_of hsq (a := (rBM (M 2) n p 0).1) (l := (rBM (M 2) n p 0).2.1) (by rw [fx_up_na (by decide)]; exact a3) (by rw [fx_up_na (by decide)]; exact a4) (by omega) (by omega) (by omega)
      rw [eg2] at this
      exact this
    have hnm : nm_ok (stN (M 2) n p) := by
      have := nm_of hsq (a := (rBM (M 2) n p 0).1) (l := (rBM (M 2) n p 0).2.1) (by omega) (by omega) (by omega)
      rw [eg2] at this
      exact this
    have ef : bFd S.2.2.2.2.1 (stN (M 2) n p) (S.2.2.2.2.1 (bRt S.2.2.2.2.1)).toNat 0 = opF (M 2) n p S := rfl
    obtain ⟨h1, ⟨Y, y1, y2⟩, h3, h4, h5, h6, h7⟩ := hSN
    refine s190 ⟨⟨by omega, by omega⟩, fun h => by omega, fun _ => ?_, fun h => by omega, fun h => by omega, fun h => by omega, fun h => by omega, fun h => by omega, fun h => by omega, fun h => by omega⟩
    refine sp_openEntry (d := d + 15) hsn hnm h6 hk.2.2.2.2.2.2.1 (hk.2.2.2.2.2.2.2.1 eo) y1 y2 h3 hO (fun hlt => s190_121 ?_) (fun hge M' m1 m2 m3 m4 m5 => s190_121 ?_)
    · rw [ef] at hlt
      have et : (rq_open (M 2) n p S).2.2 = (t_no 1851878757, S) := by
        unfold rq_open bkS
        rw [if_neg (by omega), if_pos hlt]
      rw [et] at hR
      obtain ⟨r1, r2, r3⟩ := fi_wr (cs := t_no 1851878757) (S := S) ⟨h1, ⟨Y, y1, y2⟩, h3, h4, h5, h6, h7⟩ hk.2.2.2.2.1 h30 (Nat.le_trans t_no_len (by omega)) cwr_o
      exact hR _ r1 r2 r3
    · rw [ef] at hge m1 m2 m3
      have et : (rq_open (M 2) n p S).2.2 = (t_ok, (bZ S.2.2.2.2.1 (opF (M 2) n p S), pv_new S.2.1, S.2.2)) := by
        unfold rq_open bkS
        rw [if_neg (by omega), if_neg (by omega)]
      rw [et] at hR
      have f : ∀ b j, b ≠ 3 → b ≠ 4 → b ≠ 129 → b ≠ 132 → ¬ (11 ≤ b ∧ b ≤ 28) → ¬ (54 ≤ b ∧ b ≤ 57) → M' b j = (fx_up A 3 1 0) b j := fun b j b1 b2 b3 b4 b5 b6 => by rw [m5 b j b3 b4 b5 b6 (fun h => absurd h b1), o_app_ne b1 b2]
      refine hR M' ⟨m1, ⟨_, m2, m3⟩, m4, cct_fr h4 hk.2.2.2.2.1 (fun b j b1 => f b j (by omega) (by omega) (by omega) (by omega) (by omega) (by omega)), (f 125 1 (by omega) (by omega) (by omega) (by omega) (by omega) (by omega)).trans h5, ?_, clg_fr h7 (fun b j b1 b2 => f b j (by omega) (by omega) (by omega) (by omega) (by omega) (by omega))⟩ (ctx_out h30 (show t_ok.length ≤ 5600 by decide) (m5 3 1 (by decide) (by decide) (by omega) (by omega) (fun _ => rfl)) (fun j => m5 4 j (by decide) (by decide) (by omega) (by omega) (fun h => by omega))) (fun b j hb => f b j (by omega) (by omega) (by omega) (by omega) (by omega) (by omega))
      show M' 126 = S.2.2.2.2.1
      rw [← h6]
      funext j
      exact f 126 j (by omega) (by omega) (by omega) (by omega) (by omega) (by omega)
  · have et : (rq_open (M 2) n p S).2.2 = (wls 1936225652, S) := by
      unfold rq_open bkS
      rw [if_pos ho]
    rw [et] at hR
    obtain ⟨r1, r2, r3⟩ := fi_wr (cs := wls 1936225652) hSN hk.2.2.2.2.1 h30 (Nat.le_trans wls_8 (by omega)) cwr_o
    exact hR _ r1 r2 r3
end RQS
