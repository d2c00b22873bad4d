/-! REQUESTS, the class: play. -/
def rq_person (g : Int → Int) (n p : Int) (S : HS) : Int × Int × List Int × HS := ((rBN g n 1 p 0).2.1, (rBN g n 1 p 0).2.2, t_who (v_who S.2.1 (rBN g n 1 p 0).1).1, (S.1, (v_who S.2.1 (rBN g n 1 p 0).1).2, S.2.2))
def rq_put (g : Int → Int) (n p : Int) (S : HS) : Int × Int × List Int × HS := ((rCs g n p).2.1, (rCs g n p).2.2, t_pt (v_put S.2.1 S.1 (rBN g n 3 p 0).1 (rCs g n p).1).1, (S.1, (v_put S.2.1 S.1 (rBN g n 3 p 0).1 (rCs g n p).1).2, S.2.2))
/-- undo and redo: r = (whether not, play then) -/
def unT (r : Int × fx_M) : List Int := if r.1 = 0 then t_ok else t_no (wrd 14)
def unV (r : Int × fx_M) (V : fx_M) : fx_M := if r.1 = 0 then r.2 else V
def rq_undo (p : Int) (S : HS) : Int × Int × List Int × HS := (p, 0, unT (v_undo S.2.1), (S.1, unV (v_undo S.2.1) S.2.1, S.2.2))
def vRd (V : fx_M) (a : Int) : Int × fx_M := v_redo V (V 3 (V 0 0)).toNat a 0
def rq_redo (g : Int → Int) (n p : Int) (S : HS) : Int × Int × List Int × HS := ((rBN g n 3 p 0).2.1, (rBN g n 3 p 0).2.2, unT (vRd S.2.1 (rBN g n 3 p 0).1), (S.1, unV (vRd S.2.1 (rBN g n 3 p 0).1) S.2.1, S.2.2))
def rq_state (p : Int) (S : HS) : Int × Int × List Int × HS := (p, 0, (List.range (S.1.1 * S.1.2.1).toNat).flatMap (t_st1 S.2.1 S.1), S)
def rq_mark (g : Int → Int) (n p : Int) (S : HS) : Int × Int × List Int × HS := ((rCd g n p).2.1, (rCd g n p).2.2, t_mk (v_mark S.2.1 S.1 (rBN g n 3 p 0).1 (rCd g n p).1).1, (S.1, (v_mark S.2.1 S.1 (rBN g n 3 p 0).1 (rCd g n p).1).2, S.2.2))
def rq_marks (g : Int → Int) (n p : Int) (S : HS) : Int × Int × List Int × HS := ((rBN g n 3 p 0).2.1, (rBN g n 3 p 0).2.2, t_mks S.2.1 S.1 (rBN g n 3 p 0).1, S)
theorem t_who_len {r : Int} : (t_who r).length ≤ 11 := by
  unfold t_who
  split
  · decide
  · exact t_no_len
theorem unT_len {r : Int × fx_M} : (unT r).length ≤ 11 := by
  unfold unT
  split
  · decide
  · exact t_no_len
theorem t_mk_len {r : Int} : (t_mk r).length ≤ 20 := by
  unfold t_mk
  split
  · exact t_rf_len
  · split
    · exact Nat.le_trans wls_8 (by omega)
    · split
      · exact t_rf_len
      · split
        · decide
        · decide
theorem t_mks_len {V : fx_M} {Z : PZ} {c : Int} : (t_mks V Z c).length ≤ 20 := by
  unfold t_mks
  split
  · have := fm_len (f := fun s : Nat => if mbit (V 2 (9 * V 0 0 + c)) s = 0 then [] else [48 + (s : Int)]) (m := 1) (List.range 4) (fun x hx => by
      split
      · simp
      · simp)
    rw [List.length_range] at this
    rw [List.length_append, List.length_singleton]
    omega
  · exact t_rf_len
theorem t_stL {V : fx_M} {Z : PZ} (ho : pz_ok Z) : ((List.range (Z.1 * Z.2.1).toNat).flatMap (t_st1 V Z)).length ≤ 9 := by
  have h9 := pz_n ho
  have := fm_len (f := t_st1 V Z) (m := 1) (List.range (Z.1 * Z.2.1).toNat) (fun x hx => by
    have hy : ∀ y : Int, (if y < 0 then ([46] : List Int) else [48 + y]).length ≤ 1 := fun y => by
      split
      · exact Nat.le_refl _
      · exact Nat.le_refl _
    exact hy _)
  rw [List.length_range] at this
  omega
section RQM
variable {L : Nat} {xs : Nat → Int32} {d : Nat} {M : fx_M} {Q : Option fx_V → fx_M → Prop} {S : HS} {k : Nat}
theorem cw_person {n p : Int} (h : cIn M n p 0) (hS : cRl M S) (hk : hOk k S) (K : ∀ M', cRl M' (fnR n S (rq_person (M 2) n p S)).2 → ctx M' (fnR n S (rq_person (M 2) n p S)).1 → cEnd M M' → Q none M') : wp (kcs L xs) (d + 25) 17 22 [some (jR 0), some (jI n), none] [jI 25] M Q := by
  obtain ⟨c0, c1, c2, c3, c4, c5, c6, c7⟩ := cin_b h
  refine s17_22 (ca_d1 (d := d + 18) (rfl) c0 (fun A n0 ng a1 a2 a3 => ?_))
  rw [c1, c2, c3] at a1 a2 a3
  have nb := rBN_b (g := M 2) (e := n) (m := 1) (p := p) (w := 0) (by omega) c6
  have e10 := e3_10
  have e11 := e1_10
  have hN := cR_aG hS hk.2.2.2.2.1 ng
  refine cw_fin (d := d + 20) (r := rq_person (M 2) n p S) ⟨by omega, by omega⟩ ⟨by omega, by omega⟩ hN hk (aF_end (aG_F ng)) a1 (show 0 ≤ (rBN (M 2) n 1 p 0).2.1 ∧ (rBN (M 2) n 1 p 0).2.1 ≤ 5606 by omega) a2 (show (rBN (M 2) n 1 p 0).2.2 = 0 ∨ (rBN (M 2) n 1 p 0).2.2 = 1 by omega) K (fun e3 e1 hSN h30 hO R hR => ⟨fun h => by omega, fun _ h => by omega, fun _ h => by omega, fun _ h => by omega, fun _ _ => ?_, fun h => by omega, fun h => by omega, fun h => by omega⟩)
  refine s167 ⟨⟨by omega, by omega⟩, fun _ => ?_, fun h => by omega, fun h => by omega, fun h => by omega, fun h => by omega, fun h => by omega, fun h => by omega⟩
  rw [up9, a3]
  refine sp_enter (d := d + 22) hSN.2.2.1 ⟨by omega, by omega⟩ (fun a M' m1 m2 m3 => s167_60 ?_)
  obtain ⟨r1, r2, r3⟩ := fi_pl (cs := t_who (v_who S.2.1 (rBN (M 2) n 1 p 0).1).1) hSN hk.2.2.2.2.1 h30 (Nat.le_trans t_who_len (by omega)) m2 (fun b j hb => m3 b j (by omega))
  have hO2 : o_ok M' 3 := ca_ok0 (by rw [m3 3 1 (by omega), h30])
  rcases m1 with ⟨e, rfl⟩ | ⟨e, rfl⟩
  · have et : ([111, 107] : List Int32).map Int32.toInt = t_who (v_who S.2.1 (rBN (M 2) n 1 p 0).1).1 := by
      rw [e]
      decide +kernel
    refine sp_puts (d := d + 19) fx_out3 lt_1000127 hO2 (s167_63 ?_)
    rw [et]
    exact hR _ r1 r2 r3
  · have et : ([110, 111, 32, 112, 101, 114, 115, 111, 110] : List Int32).map Int32.toInt = t_who (v_who S.2.1 (rBN (M 2) n 1 p 0).1).1 := by
      rw [e]
      decide +kernel
    refine sp_puts (d := d + 19) fx_out3 lt_1000125 hO2 (s167_63 ?_)
    rw [et]
    exact hR _ r1 r2 r3
theorem cw_put {n p : Int} (h : cIn M n p 0) (hS : cRl M S) (hk : hOk k S) (K : ∀ M', cRl M' (fnR n S (rq_put (M 2) n p S)).2 → ctx M' (fnR n S (rq_put (M 2) n p S)).1 → cEnd M M' → Q none M') : wp (kcs L xs) (d + 25) 17 22 [some (jR 0), some (jI n), none] [jI 26] M Q := by
  obtain ⟨c0, c1, c2, c3, c4, c5, c6, c7⟩ := cin_b h
  refine s17_22 (ca_cs (d := d + 18) (Or.inr rfl) c0 (fun A n0 ng a1 a2 a3 a4 => ?_))
  rw [c1, c2, c3] at a1 a2 a3 a4
  have nb := rBN_b (g := M 2) (e := n) (m := 3) (p := p) (w := 0) (by omega) c6
  have sb := rBS_b (g := M 2) (e := n) (p := (rBN (M 2) n 3 p 0).2.1) (w := (rBN (M 2) n 3 p 0).2.2) (by omega)
  have er : rBS (M 2) n (rBN (M 2) n 3 p 0).2.1 (rBN (M 2) n 3 p 0).2.2 = rCs (M 2) n p := rfl
  rw [er] at sb a1 a2 a4
  have e10 := e3_10
  have e11 := e1_10
  have hN := cR_aG hS hk.2.2.2.2.1 ng
  refine cw_fin (d := d + 20) (r := rq_put (M 2) n p S) ⟨by omega, by omega⟩ ⟨by omega, by omega⟩ hN hk (aF_end (aG_F ng)) a1 (show 0 ≤ (rCs (M 2) n p).2.1 ∧ (rCs (M 2) n p).2.1 ≤ 5606 by omega) a2 (show (rCs (M 2) n p).2.2 = 0 ∨ (rCs (M 2) n p).2.2 = 1 by omega) K (fun e3 e1 hSN h30 hO R hR => ⟨fun h => by omega, fun _ h => by omega, fun _ h => by omega, fun _ h => by omega, fun _ _ => ?_, fun h => by omega, fun h => by omega, fun h => by omega⟩)
  refine s167 ⟨⟨by omega, by omega⟩, fun h => by omega, fun _ => ?_, fun h => by omega, fun h => by omega, fun h => by omega, fun h => by omega, fun h => by omega⟩
  rw [up9, up9, a3, a4]
  refine sp_pput (d := d + 21) puz11 hSN.1 hk.1 hSN.2.2.1 hk.2.2.1 ⟨by omega, by omega⟩ ⟨by omega, by omega⟩ (fun a M' m1 m2 m3 m4 => s167_91 ?_)
  obtain ⟨r1, r2, r3⟩ := fi_pl (cs := t_pt (v_put S.2.1 S.1 (rBN (M 2) n 3 p 0).1 (rCs (M 2) n p).1).1) hSN hk.2.2.2.2.1 h30 (Nat.le_trans t_pt_len (by omega)) m2 (fun b j hb => m4 b j (by omega))
  obtain ⟨bs, b1, b2⟩ := pla_str (L := L) (xs := xs) m1
  refine sp_puts (d := d + 19) fx_out3 b1 (ca_ok0 (by rw [m4 3 1 (by omega), h30])) (s167_94 ?_)
  rw [b2]
  exact hR _ r1 r2 r3
theorem cw_undo {n p : Int} (h : cIn M n p 0) (hS : cRl M S) (hk : hOk k S) (K : ∀ M', cRl M' (fnR n S (rq_undo p S)).2 → ctx M' (fnR n S (rq_undo p S)).1 → cEnd M M' → Q none M') : wp (kcs L xs) (d + 25) 17 22 [some (jR 0), some (jI n), none] [jI 27] M Q := by
  refine cw_np (r := (rq_undo p S).2.2) ⟨by omega, by omega⟩ (by unfold lgV; omega) (by omega) h hS hk K (fun hSN h30 R hR => ⟨fun h => by omega, fun _ h => by omega, fun _ h => by omega, fun _ h => by omega, fun _ _ => ?_, fun h => by omega, fun h => by omega, fun h => by omega⟩)
  refine s167 ⟨⟨by omega, by omega⟩, fun h => by omega, fun h => by omega, fun _ => ?_, fun h => by omega, fun h => by omega, fun h => by omega, fun h => by omega⟩
  refine sp_pundo (d := d + 22) hSN.2.2.1 hk.2.2.1 (fun e M' m1 m2 m3 => s167_108 ?_) (fun e => s167_108 ?_)
  · have eV : unV (v_undo S.2.1) S.2.1 = (v_undo S.2.1).2 := by
      unfold unV
      rw [if_pos e]
    have eT : unT (v_undo S.2.1) = t_ok := by
      unfold unT
      rw [if_pos e]
    have ea : (rq_undo p S).2.2 = (t_ok, (S.1, (v_undo S.2.1).2, S.2.2)) := by
      unfold rq_undo
      rw [eV, eT]
    rw [ea] at hR
    obtain ⟨r1, r2, r3⟩ := fi_pl (cs := t_ok) hSN hk.2.2.2.2.1 h30 (by decide) m1 (fun b j hb => m3 b j (by omega))
    refine sp_puts (d := d + 19) fx_out3 lt_1000127 (ca_ok0 (by rw [m3 3 1 (by omega), h30])) (s167_111 ?_)
    rw [t_ok_s]
    exact hR _ r1 r2 r3
  · have eV : unV (v_undo S.2.1) S.2.1 = S.2.1 := by
      unfold unV
      rw [if_neg (by omega)]
    have eT : unT (v_undo S.2.1) = t_no (wrd 14) := by
      unfold unT
      rw [if_neg (by omega)]
    have ea : (rq_undo p S).2.2 = (t_no (wrd 14), (S.1, S.2.1, S.2.2)) := by
      unfold rq_undo
      rw [eV, eT]
    rw [ea] at hR
    have es : ([110, 111, 32, 115, 116, 101, 112] : List Int32).map Int32.toInt = t_no (wrd 14) := by decide +kernel
    obtain ⟨r1, r2, r3⟩ := fi_pl (cs := t_no (wrd 14)) hSN hk.2.2.2.2.1 h30 (Nat.le_trans t_no_len (by omega)) hSN.2.2.1 (fun b j hb => rfl)
    refine sp_puts (d := d + 19) fx_out3 lt_1000141 (ca_ok0 h30) (s167_111 ?_)
    rw [es]
    exact hR _ r1 r2 r3
theorem cw_redo {n p : Int} (h : cIn M n p 0) (hS : cRl M S) (hk : hOk k S) (K : ∀ M', cRl M' (fnR n S (rq_redo (M 2) n p S)).2 → ctx M' (fnR n S (rq_redo (M 2) n p S)).1 → cEnd M M' → Q none M') : wp (kcs L xs) (d + 25) 17 22 [some (jR 0), some (jI n), none] [jI 28] M Q := by
  obtain ⟨c0, c1, c2, c3, c4, c5, c6, c7⟩ := cin_b h
  refine s17_22 (ca_n3 (d := d + 18) (Or.inr (Or.inr (Or.inr (Or.inl rfl)))) c0 (fun A n0 ng a1 a2 a3 => ?_))
  rw [c1, c2, c3] at a1 a2 a3
  have nb := rBN_b (g := M 2) (e := n) (m := 3) (p := p) (w := 0) (by omega) c6
  have e10 := e3_10
  have e11 := e1_10
  have hN := cR_aG hS hk.2.2.2.2.1 ng
  refine cw_fin (d := d + 20) (r := rq_redo (M 2) n p S) ⟨by omega, by omega⟩ ⟨by omega, by omega⟩ hN hk (aF_end (aG_F ng)) a1 (show 0 ≤ (rBN (M 2) n 3 p 0).2.1 ∧ (rBN (M 2) n 3 p 0).2.1 ≤ 5606 by omega) a2 (show (rBN (M 2) n 3 p 0).2.2 = 0 ∨ (rBN (M 2) n 3 p 0).2.2 = 1 by omega) K (fun e3 e1 hSN h30 hO R hR => ⟨fun h => by omega, fun _ h => by omega, fun _ h => by omega, fun _ h => by omega, fun _ _ => ?_, fun h => by omega, fun h => by omega, fun h => by omega⟩)
  refine s167 ⟨⟨by omega, by omega⟩, fun h => by omega, fun h => by omega, fun h => by omega, fun _ => ?_, fun h => by omega, fun h => by omega, fun h => by omega⟩
  rw [up9, a3]
  refine sp_predo (d := d + 22) hSN.2.2.1 hk.2.2.1 ⟨by omega, by omega⟩ (fun e M' m1 m2 m3 => s167_126 ?_) (fun e => s167_126 ?_)
  · have eV : unV (vRd S.2.1 (rBN (M 2) n 3 p 0).1) S.2.1 = (vRd S.2.1 (rBN (M 2) n 3 p 0).1).2 := by
      unfold unV
      rw [if_pos (show (vRd S.2.1 (rBN (M 2) n 3 p 0).1).1 = 0 from e)]
    have eT : unT (vRd S.2.1 (rBN (M 2) n 3 p 0).1) = t_ok := by
      unfold unT
      rw [if_pos (show (vRd S.2.1 (rBN (M 2) n 3 p 0).1).1 = 0 from e)]
    have ea : (rq_redo (M 2) n p S).2.2 = (t_ok, (S.1, (vRd S.2.1 (rBN (M 2) n 3 p 0).1).2, S.2.2)) := by
      unfold rq_redo
      rw [eV, eT]
    rw [ea] at hR
    obtain ⟨r1, r2, r3⟩ := fi_pl (cs := t_ok) hSN hk.2.2.2.2.1 h30 (by decide) m1 (fun b j hb => m3 b j (by omega))
    refine sp_puts (d := d + 19) fx_out3 lt_1000127 (ca_ok0 (by rw [m3 3 1 (by omega), h30])) (s167_129 ?_)
    rw [t_ok_s]
    exact hR _ r1 r2 r3
  · have hne : ¬ (vRd S.2.1 (rBN (M 2) n 3 p 0).1).1 = 0 := by
      have e' : (vRd S.2.1 (rBN (M 2) n 3 p 0).1).1 = 1 := e
      omega
    have eV : unV (vRd S.2.1 (rBN (M 2) n 3 p 0).1) S.2.1 = S.2.1 := by
      unfold unV
      rw [if_neg hne]
    have eT : unT (vRd S.2.1 (rBN (M 2) n 3 p 0).1) = t_no (wrd 14) := by
      unfold unT
      rw [if_neg hne]
    have ea : (rq_redo (M 2) n p S).2.2 = (t_no (wrd 14), (S.1, S.2.1, S.2.2)) := by
      unfold rq_redo
      rw [eV, eT]
    rw [ea] at hR
    have es : ([110, 111, 32, 115, 116, 101, 112] : List Int32).map Int32.toInt = t_no (wrd 14) := by decide +kernel
    obtain ⟨r1, r2, r3⟩ := fi_pl (cs := t_no (wrd 14)) hSN hk.2.2.2.2.1 h30 (Nat.le_trans t_no_len (by omega)) hSN.2.2.1 (fun b j hb => rfl)
    refine sp_puts (d := d + 19) fx_out3 lt_1000141 (ca_ok0 h30) (s167_129 ?_)
    rw [es]
    exact hR _ r1 r2 r3
theorem cw_state {n p : Int} (h : cIn M n p 0) (hS : cRl M S) (hk : hOk k S) (K : ∀ M', cRl M' (fnR n S (rq_state p S)).2 → ctx M' (fnR n S (rq_state p S)).1 → cEnd M M' → Q none M') : wp (kcs L xs) (d + 25) 17 22 [some (jR 0), some (jI n), none] [jI 29] M Q := by
  refine cw_np (r := (rq_state p S).2.2) ⟨by omega, by omega⟩ (by unfold lgV; omega) (by omega) h hS hk K (fun hSN h30 R hR => ⟨fun h => by omega, fun _ h => by omega, fun _ h => by omega, fun _ h => by omega, fun _ _ => ?_, fun h => by omega, fun h => by omega, fun h => by omega⟩)
  refine s167 ⟨⟨by omega, by omega⟩, fun h => by omega, fun h => by omega, fun h => by omega, fun h => by omega, fun _ => ?_, fun h => by omega, fun h => by omega⟩
  refine sp_pstate (d := d + 21) puz11 fx_out3 hk.1 hSN.1 hSN.2.2.1 hk.2.2.1 (ca_ok0 h30) (s167_147 ?_)
  obtain ⟨r1, r2, r3⟩ := fi_wr (cs := (List.range (S.1.1 * S.1.2.1).toNat).flatMap (t_st1 S.2.1 S.1)) hSN hk.2.2.2.2.1 h30 (Nat.le_trans (t_stL hk.1) (by omega)) cwr_o
  exact hR _ r1 r2 r3
theorem cw_mark {n p : Int} (h : cIn M n p 0) (hS : cRl M S) (hk : hOk k S) (K : ∀ M', cRl M' (fnR n S (rq_mark (M 2) n p S)).2 → ctx M' (fnR n S (rq_mark (M 2) n p S)).1 → cEnd M M' → Q none M') : wp (kcs L xs) (d + 25) 17 22 [some (jR 0), some (jI n), none] [jI 30] M Q := by
  obtain ⟨c0, c1, c2, c3, c4, c5, c6, c7⟩ := cin_b h
  refine s17_22 (ca_cd (d := d + 18) (Or.inr rfl) c0 (fun A n0 ng a1 a2 a3 a4 => ?_))
  rw [c1, c2, c3] at a1 a2 a3 a4
  have nb := rBN_b (g := M 2) (e := n) (m := 3) (p := p) (w := 0) (by omega) c6
  have sb := rBN_b (g := M 2) (e := n) (m := 1) (p := (rBN (M 2) n 3 p 0).2.1) (w := (rBN (M 2) n 3 p 0).2.2) (by omega) (by omega)
  have er : rBN (M 2) n 1 (rBN (M 2) n 3 p 0).2.1 (rBN (M 2) n 3 p 0).2.2 = rCd (M 2) n p := rfl
  rw [er] at sb a1 a2 a4
  have e10 := e3_10
  have e11 := e1_10
  have hN := cR_aG hS hk.2.2.2.2.1 ng
  refine cw_fin (d := d + 20) (r := rq_mark (M 2) n p S) ⟨by omega, by omega⟩ ⟨by omega, by omega⟩ hN hk (aF_end (aG_F ng)) a1 (show 0 ≤ (rCd (M 2) n p).2.1 ∧ (rCd (M 2) n p).2.1 ≤ 5606 by omega) a2 (show (rCd (M 2) n p).2.2 = 0 ∨ (rCd (M 2) n p).2.2 = 1 by omega) K (fun e3 e1 hSN h30 hO R hR => ⟨fun h => by omega, fun _ h => by omega, fun _ h => by omega, fun _ h => by omega, fun _ _ => ?_, fun h => by omega, fun h => by omega, fun h => by omega⟩)
  refine s167 ⟨⟨by omega, by omega⟩, fun h => by omega, fun h => by omega, fun h => by omega, fun h => by omega, fun h => by omega, fun _ => ?_, fun h => by omega⟩
  rw [up9, up9, a3, a4]
  refine sp_pmark (d := d + 21) puz11 hSN.1 hk.1 hSN.2.2.1 hk.2.2.1 ⟨by omega, by omega⟩ ⟨by omega, by omega⟩ (fun a M' m1 m2 m3 m4 => s167_175 ?_)
  obtain ⟨r1, r2, r3⟩ := fi_pl (cs := t_mk (v_mark S.2.1 S.1 (rBN (M 2) n 3 p 0).1 (rCd (M 2) n p).1).1) hSN hk.2.2.2.2.1 h30 (Nat.le_trans t_mk_len (by omega)) m2 (fun b j hb => m4 b j (by omega))
  have hs : ∃ bs : List Int32, fx_str (kcs L xs) a bs ∧ bs.map Int32.toInt = t_mk (v_mark S.2.1 S.1 (rBN (M 2) n 3 p 0).1 (rCd (M 2) n p).1).1 := by
    rcases m1 with ⟨e, rfl⟩ | ⟨e, rfl⟩ | ⟨e, rfl⟩ | ⟨e, rfl⟩ | ⟨e, rfl⟩
    · exact ⟨_, lt_1000129, by rw [e]; decide +kernel⟩
    · exact ⟨_, lt_1000131, by rw [e]; decide +kernel⟩
    · exact ⟨_, lt_1000133, by rw [e]; decide +kernel⟩
    · exact ⟨_, lt_1000143, by rw [e]; decide +kernel⟩
    · exact ⟨_, lt_1000145, by rw [e]; decide +kernel⟩
  obtain ⟨bs, b1, b2⟩ := hs
  refine sp_puts (d := d + 19) fx_out3 b1 (ca_ok0 (by rw [m4 3 1 (by omega), h30])) (s167_178 ?_)
  rw [b2]
  exact hR _ r1 r2 r3
theorem cw_marks {n p : Int} (h : cIn M n p 0) (hS : cRl M S) (hk : hOk k S) (K : ∀ M', cRl M' (fnR n S (rq_marks (M 2) n p S)).2 → ctx M' (fnR n S (rq_marks (M 2) n p S)).1 → cEnd M M' → Q none M') : wp (kcs L xs) (d + 25) 17 22 [some (jR 0), some (jI n), none] [jI 31] M Q := by
  obtain ⟨c0, c1, c2, c3, c4, c5, c6, c7⟩ := cin_b h
  refine s17_22 (ca_n3 (d := d + 18) (Or.inr (Or.inr (Or.inr (Or.inr (Or.inl rfl))))) c0 (fun A n0 ng a1 a2 a3 => ?_))
  rw [c1, c2, c3] at a1 a2 a3
  have nb := rBN_b (g := M 2) (e := n) (m := 3) (p := p) (w := 0) (by omega) c6
  have e10 := e3_10
  have e11 := e1_10
  have hN := cR_aG hS hk.2.2.2.2.1 ng
  refine cw_fin (d := d + 20) (r := rq_marks (M 2) n p S) ⟨by omega, by omega⟩ ⟨by omega, by omega⟩ hN hk (aF_end (aG_F ng)) a1 (show 0 ≤ (rBN (M 2) n 3 p 0).2.1 ∧ (rBN (M 2) n 3 p 0).2.1 ≤ 5606 by omega) a2 (show (rBN (M 2) n 3 p 0).2.2 = 0 ∨ (rBN (M 2) n 3 p 0).2.2 = 1 by omega) K (fun e3 e1 hSN h30 hO R hR => ⟨fun h => by omega, fun _ h => by omega, fun _ h => by omega, fun _ h => by omega, fun _ _ => ?_, fun h => by omega, fun h => by omega, fun h => by omega⟩)
  refine s167 ⟨⟨by omega, by omega⟩, fun h => by omega, fun h => by omega, fun h => by omega, fun h => by omega, fun h => by omega, fun h => by omega, fun _ => ?_⟩
  rw [up9, a3]
  refine sp_pmarks (d := d + 18) puz11 fx_out3 hSN.1 hk.1 hSN.2.2.1 hk.2.2.1 hO ⟨by omega, by omega⟩ (s167_197 ?_)
  obtain ⟨r1, r2, r3⟩ := fi_wr (cs := t_mks S.2.1 S.1 (rBN (M 2) n 3 p 0).1) hSN hk.2.2.2.2.1 h30 (Nat.le_trans t_mks_len (by omega)) cwr_o
  exact hR _ r1 r2 r3
end RQM
