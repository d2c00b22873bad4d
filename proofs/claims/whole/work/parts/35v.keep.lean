/-! REQUESTS, the class: keep. -/
theorem rL_d {g : Int → Int} {e : Int} : ∀ (k : Nat) (p : Int) (i : Nat), i < rL g e k p → 97 ≤ g (p + (i : Int)) ∧ g (p + (i : Int)) ≤ 122
  | 0, p, i, h => by
    rw [rL] at h
    omega
  | k + 1, p, i, h => by
    rw [rL] at h
    split at h
    · rename_i hc
      cases i with
      | zero =>
        rw [show p + ((0 : Nat) : Int) = p by omega]
        exact hc.2
      | succ i =>
        have := rL_d (g := g) (e := e) k (p + 1) i (by omega)
        rw [show p + 1 + (i : Int) = p + ((i + 1 : Nat) : Int) by omega] at this
        exact this
    · omega
/-- a name read is of small letters -/
theorem stN_l {g : Int → Int} {n p : Int} : ∀ x ∈ stN g n p, 97 ≤ x ∧ x ≤ 122 := fun x hx => by
  obtain ⟨j, hj1, hj2⟩ := List.mem_map.mp hx
  have hj := List.mem_range.mp hj1
  rw [← hj2]
  have e1 : (rBM g n p 0).1 = (rT g n 32 p 0).1 := rfl
  have e2 : (rBM g n p 0).2.1 = (rNm g n (rT g n 32 p 0).1 (rT g n 32 p 0).2).1 := rfl
  rw [e2] at hj
  rw [e1]
  refine rL_d (g := g) (e := n) 8 _ j ?_
  unfold rNm at hj
  split at hj
  · dsimp only at hj
    omega
  · dsimp only at hj
    omega
noncomputable def rq_keep (g : Int → Int) (n p : Int) (S : HS) : Int × Int × List Int × HS := ((rBM g n p 0).1 + (rBM g n p 0).2.1, (rBM g n p 0).2.2, bkS S (@ite _ (kpF S.2.2.2.2.1 (stN g n p) S.1) (Classical.propDecidable _) (t_rf 4, S) (t_ok, (S.1, S.2.1, S.2.2.1, S.2.2.2.1, bCut S.2.2.2.2.1 (kpD S.2.2.2.2.1 (stN g n p) S.1), wLog S.2.2.2.2.1 (kpD S.2.2.2.2.1 (stN g n p) S.1)))))
section RQV
variable {L : Nat} {xs : Nat → Int32} {d : Nat} {M : fx_M} {Q : Option fx_V → fx_M → Prop} {S : HS} {k : Nat}
theorem cw_keep {n p : Int} (h : cIn M n p 0) (hS : cRl M S) (hk : hOk k S) (K : ∀ M', cRl M' (fnR n S (rq_keep (M 2) n p S)).2 → ctx M' (fnR n S (rq_keep (M 2) n p S)).1 → cEnd M M' → Q none M') : wp (kcs L xs) (d + 25) 17 22 [some (jR 0), some (jI n), none] [jI 36] M Q := by
  obtain ⟨c0, c1, c2, c3, c4, c5, c6, c7⟩ := cin_b h
  refine s17_22 (ca_nm (d := d + 18) (Or.inl rfl) c0 (fun A n0 ng a1 a2 a3 a4 => ?_))
  rw [c1, c2, c3] at a1 a2 a3 a4
  have mb := rBM_0 (g := M 2) (n := n) (p := p) (w := 0) c6
  have hN := cR_aG hS hk.2.2.2.2.1 ng
  refine cw_fin (d := d + 20) (r := rq_keep (M 2) n p S) ⟨by omega, by omega⟩ ⟨by omega, by omega⟩ hN hk (aF_end (aG_F ng)) a1 (show 0 ≤ (rBM (M 2) n p 0).1 + (rBM (M 2) n p 0).2.1 ∧ (rBM (M 2) n p 0).1 + (rBM (M 2) n p 0).2.1 ≤ 5606 by omega) a2 (show (rBM (M 2) n p 0).2.2 = 0 ∨ (rBM (M 2) n p 0).2.2 = 1 by omega) K (fun e3 e1 hSN h30 hO R hR => ⟨fun h => by omega, fun _ h => by omega, fun _ h => by omega, fun _ h => by omega, fun _ h => by omega, fun _ h => by omega, fun _ ho => ?_, fun _ ho _ _ => ?_⟩)
  · have eo : S.2.2.2.1 = 1 := by omega
    have hl1 := mb.2.2.2.2.2 e3
    have eg : A 2 = M 2 := (aG_2 ng).1
    have tb := tText_b hk.1
    have hH := bMd_H (hk.2.2.2.2.2.2.2.1 eo)
    have hsqA : sq (fx_up A 3 1 0) := sc_at_up n0 (by decide) (by omega)
    refine s190 ⟨⟨by omega, by omega⟩, fun _ => ?_, fun h => by omega, fun h => by omega, fun h => by omega, fun h => by omega, fun h => by omega, fun h => by omega, fun h => by omega, fun h => by omega⟩
    refine s63 fx_out5 (s190_55 ?_)
    have b51 : (fx_up (fx_up A 3 1 0) 5 1 0) 5 1 = 0 := fx_up_self _ _ _ _
    have hz5 : cz (fx_up (fx_up A 3 1 0) 5 1 0) 11 S.1 := cz_fr hSN.1 (fun b j b1 b2 => fx_up_na (by omega))
    refine sp_write (d := d + 17) puz11 fx_out5 hk.1 hz5 (by unfold o_ok; rw [b51]; omega) (s190_66 ?_)
    have hT := otx_app b51 (Nat.le_trans tb.1 (by omega)) tb.2
    have fB : ∀ b j, b ≠ 5 → b ≠ 6 → (o_app (fx_up (fx_up A 3 1 0) 5 1 0) 5 (tText S.1)) b j = (fx_up A 3 1 0) b j := fun b j b1 b2 => by rw [o_app_ne b1 b2, fx_up_na b1]
    generalize o_app (fx_up (fx_up A 3 1 0) 5 1 0) 5 (tText S.1) = B at hT fB ⊢
    have hB : cRl B S := cRl_fr hSN hk.2.2.2.2.1 (fun b j hb => fB b j (by omega) (by omega))
    have hB30 : B 3 1 = 0 := by rw [fB 3 1 (by decide) (by decide), h30]
    have hBE : cEnd (fx_up A 3 1 0) B := fun b j hb => fB b j (by omega) (by omega)
    have eg2 : B 2 = M 2 := by
      rw [← eg]
      funext j
      rw [fB 2 j (by decide) (by decide), fx_up_na (by decide)]
    have u7 : ∀ j, B 7 j = A 7 j := fun j => by rw [fB 7 j (by decide) (by decide), fx_up_na (by decide)]
    have hsq : sq B := by
      obtain ⟨s1, s2, s3, s4, s5, s6, s7, s8, s9⟩ := n0
      exact ⟨by rw [u7]; exact s1, s2, s3, by rw [u7]; exact s4, by rw [u7, u7]; exact s5, by rw [u7]; exact s6, by rw [u7]; exact s7, by rw [u7]; exact s8, fun j j0 j1 => by rw [eg2, ← eg]; exact s9 j j0 j1⟩
    have hsn : snm B (stN (M 2) n p) := by
      have := sn_of hsq (a := (rBM (M 2) n p 0).1) (l := (rBM (M 2) n p 0).2.1) (by rw [u7]; exact a3) (by rw [u7]; exact a4) (by omega) (by omega) (by omega)
      rw [eg2] at this
      exact this
    have hnm : nm_ok (stN (M 2) n p) := by
      have := nm_of hsq (a := (rBM (M 2) n p 0).1) (l := (rBM (M 2) n p 0).2.1) (by omega) (by omega) (by omega)
      rw [eg2] at this
      exact this
    refine sp_keep (d := d + 19) hsn hnm (fun c hc => by have := stN_l c hc; omega) hT hB.2.2.2.2.2.1 hk.2.2.2.2.2.2.1 hH (fun hf => s190_99 ?_) (fun hg1 hg2 M' hm => s190_99 ?_)
    · have et : (rq_keep (M 2) n p S).2.2 = (t_rf 4, S) := by
        unfold rq_keep bkS
        rw [if_neg (by omega), if_pos (show kpF S.2.2.2.2.1 (stN (M 2) n p) S.1 from hf)]
      rw [et] at hR
      have es : ([110, 111, 32, 114, 111, 111, 109] : List Int32).map Int32.toInt = t_rf 4 := by decide +kernel
      refine ⟨⟨by omega, by omega⟩, fun _ => sp_puts (d := d + 19) fx_out3 lt_1000169 (ca_ok0 hB30) (s190_114 ?_), fun h => absurd rfl h⟩
      rw [es]
      obtain ⟨r1, r2, r3⟩ := fi_wr (cs := t_rf 4) hB hk.2.2.2.2.1 hB30 (Nat.le_trans t_rf_len (by omega)) cwr_o
      exact hR _ r1 r2 (cEnd_tr hBE r3)
    · have hnf : ¬ kpF S.2.2.2.2.1 (stN (M 2) n p) S.1 := by
        unfold kpF
        omega
      have et : (rq_keep (M 2) n p S).2.2 = (t_ok, (S.1, S.2.1, S.2.2.1, S.2.2.2.1, bCut S.2.2.2.2.1 (kpD S.2.2.2.2.1 (stN (M 2) n p) S.1), wLog S.2.2.2.2.1 (kpD S.2.2.2.2.1 (stN (M 2) n p) S.1))) := by
        unfold rq_keep bkS
        rw [if_neg (by omega), if_neg hnf]
      rw [et] at hR
      obtain ⟨r1, r2, r3⟩ := fi_bk (cs := t_ok) hB hk.2.2.2.2.1 hB30 (by decide) hm
      refine ⟨⟨by omega, by omega⟩, fun h => by omega, fun _ => sp_puts (d := d + 19) fx_out3 lt_1000063 (ca_ok0 (by rw [hm.2.2 3 1 (by omega) (by omega) (by omega) (by omega), hB30])) (s190_114 ?_)⟩
      rw [t_ok_s]
      exact hR _ r1 r2 (cEnd_tr hBE r3)
  · have et : (rq_keep (M 2) n p S).2.2 = (wls 1936225652, S) := by
      unfold rq_keep bkS
      rw [if_pos ho]
    rw [et] at hR
    obtain ⟨r1, r2, r3⟩ := fi_wr (cs := wls 1936225652) hSN hk.2.2.2.2.1 h30 (Nat.le_trans wls_8 (by omega)) cwr_o
    exact hR _ r1 r2 r3
end RQV
