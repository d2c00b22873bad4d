/-! REQUESTS, the class: the group of answers, and of reasons. -/
noncomputable def rq_prove (p : Int) (S : HS) : Int × Int × List Int × HS := (p, 0, tProof S.1, S)
noncomputable def rq_grade (p : Int) (S : HS) : Int × Int × List Int × HS := (p, 0, tGrade S.1, S)
noncomputable def rq_hint (p : Int) (S : HS) : Int × Int × List Int × HS := (p, 0, hnR S.1 (s_play S.1 S.2.1) S.1.2.2.2.1 0, S)
noncomputable def rq_step (p : Int) (S : HS) : Int × Int × List Int × HS := (p, 0, tStep S.1 (s_play S.1 S.2.1), S)
noncomputable def rq_solve (p : Int) (S : HS) : Int × Int × List Int × HS := (p, 0, tSolve S.1 (s_play S.1 S.2.1), S)
noncomputable def rq_teach (p : Int) (S : HS) : Int × Int × List Int × HS := (p, 0, tLesson S.1, S)
section RQI
variable {L : Nat} {xs : Nat → Int32} {d : Nat} {M : fx_M} {Q : Option fx_V → fx_M → Prop} {S : HS} {k : Nat}
/-- a request without arguments -/
theorem cw_np {v n p : Int} {r : List Int × HS} (h32 : fx_in32 v) (hv : lgV v) (hv2 : v ≠ 1 ∧ v ≠ 2 ∧ v ≠ 6 ∧ v ≠ 15 ∧ v ≠ 43) (h : cIn M n p 0) (hS : cRl M S) (hk : hOk k S) (K : ∀ M', cRl M' (fnR n S (p, 0, r)).2 → ctx M' (fnR n S (p, 0, r)).1 → cEnd M M' → Q none M') (K1 : cRl (fx_up M 3 1 0) S → (fx_up M 3 1 0) 3 1 = 0 → ∀ R : Option fx_V → fx_M → Prop, (∀ M1, cRl M1 r.2 → ctx M1 r.1 → cEnd (fx_up M 3 1 0) M1 → R none M1) → dsp L xs (d + 20) v S.2.2.2.1 (fx_up M 3 1 0) R) : wp (kcs L xs) (d + 25) 17 22 [some (jR 0), some (jI n), none] [jI v] M Q := by
  obtain ⟨c0, c1, c2, c3, c4, c5, c6, c7⟩ := cin_b h
  refine s17_22 (ca_none (d := d + 15) h32 hv hv2 ?_)
  exact cw_fin (d := d + 20) (r := (p, 0, r)) h32 ⟨by omega, by omega⟩ hS hk (fun _ _ _ => rfl) c1 (show 0 ≤ p ∧ p ≤ 5606 by omega) c3 (Or.inl rfl) K (fun _ _ hSN h30 _ R hR => K1 hSN h30 R hR)
theorem cw_many {n p : Int} (h : cIn M n p 0) (hS : cRl M S) (hk : hOk k S) (K : ∀ M', cRl M' (fnR n S (rq_many p S)).2 → ctx M' (fnR n S (rq_many p S)).1 → cEnd M M' → Q none M') : wp (kcs L xs) (d + 25) 17 22 [some (jR 0), some (jI n), none] [jI 8] M Q := by
  refine cw_np (r := (rq_many p S).2.2) ⟨by omega, by omega⟩ (by unfold lgV; omega) (by omega) h hS hk K (fun hSN h30 R hR => ⟨fun h => by omega, fun _ _ => ?_, fun h => by omega, fun h => by omega, fun h => by omega, fun h => by omega, fun h => by omega, fun h => by omega⟩)
  refine s74 (cl_learn (d := d + 20) hSN hk h30 (fun N n1 n2 n3 n4 n5 n6 n7 => s74_7 ⟨⟨by omega, by omega⟩, fun h => by omega, fun _ => ?_, fun h => by omega, fun h => by omega, fun h => by omega, fun h => by omega, fun h => by omega⟩))
  refine sp_first (d := d + 21) puz11 n2.1 hk.1 (fun y hy => s74_82 (sp_cnt (d := d + 10) (li := 1048576) hk.1 n2 hk.1 zeq_rf hy ⟨by omega, by omega⟩ (s74_88 ?_)))
  have hle := ans_le hk.1
  have e : mnL ((ans S.1).length : Nat) 1048576 = ((ans S.1).length : Nat) := by
    unfold mnL
    rw [if_pos (by omega)]
  rw [e]
  obtain ⟨r1, r2, r3⟩ := fi_wr (cs := dgs ((ans S.1).length : Nat)) n1 hk.2.2.2.2.1 n3 (Nat.le_trans dgs_len (by omega)) cwr_o
  exact sp_number (d := d + 22) fx_out3 (ca_ok0 n3) (by omega) (by omega) (s74_91 (hR _ r1 r2 (cEnd_tr n4 r3)))
theorem cw_clash {n p : Int} (h : cIn M n p 0) (hS : cRl M S) (hk : hOk k S) (K : ∀ M', cRl M' (fnR n S (rq_clash p S)).2 → ctx M' (fnR n S (rq_clash p S)).1 → cEnd M M' → Q none M') : wp (kcs L xs) (d + 25) 17 22 [some (jR 0), some (jI n), none] [jI 10] M Q := by
  refine cw_np (r := (rq_clash p S).2.2) ⟨by omega, by omega⟩ (by unfold lgV; omega) (by omega) h hS hk K (fun hSN h30 R hR => ⟨fun h => by omega, fun _ _ => ?_, fun h => by omega, fun h => by omega, fun h => by omega, fun h => by omega, fun h => by omega, fun h => by omega⟩)
  refine s74 (cl_learn (d := d + 20) hSN hk h30 (fun N n1 n2 n3 n4 n5 n6 n7 => s74_7 ⟨⟨by omega, by omega⟩, fun h => by omega, fun h => by omega, fun h => by omega, fun _ => ?_, fun h => by omega, fun h => by omega, fun h => by omega⟩))
  refine sp_clash (d := d + 9) hk.1 n2 (ca_ok0 n3) (fun M' hm => s74_120 ?_)
  obtain ⟨r1, r2, r3⟩ := fi_wr n1 hk.2.2.2.2.1 n3 (Nat.le_trans (tClash_len hk.1) (by omega)) hm
  exact hR _ r1 r2 (cEnd_tr n4 r3)
theorem cw_wrong {n p : Int} (h : cIn M n p 0) (hS : cRl M S) (hk : hOk k S) (K : ∀ M', cRl M' (fnR n S (rq_wrong p S)).2 → ctx M' (fnR n S (rq_wrong p S)).1 → cEnd M M' → Q none M') : wp (kcs L xs) (d + 25) 17 22 [some (jR 0), some (jI n), none] [jI 13] M Q := by
  refine cw_np (r := (rq_wrong p S).2.2) ⟨by omega, by omega⟩ (by unfold lgV; omega) (by omega) h hS hk K (fun hSN h30 R hR => ⟨fun h => by omega, fun _ _ => ?_, fun h => by omega, fun h => by omega, fun h => by omega, fun h => by omega, fun h => by omega, fun h => by omega⟩)
  refine s74 (cl_learn (d := d + 20) hSN hk h30 (fun N n1 n2 n3 n4 n5 n6 n7 => s74_7 ⟨⟨by omega, by omega⟩, fun h => by omega, fun h => by omega, fun h => by omega, fun h => by omega, fun h => by omega, fun h => by omega, fun _ => ?_⟩))
  refine sp_countWrong (d := d + 8) hk.1 n2 n1.2.2.1 hk.2.2.1 hk.2.2.2.1 (ca_ok0 n3) (s74_185 ?_)
  obtain ⟨r1, r2, r3⟩ := fi_wr (cs := tWrong S.1 S.2.1) n1 hk.2.2.2.2.1 n3 (Nat.le_trans tWrong_len (by omega)) cwr_o
  exact hR _ r1 r2 (cEnd_tr n4 r3)
theorem cw_least {n p : Int} (h : cIn M n p 0) (hS : cRl M S) (hk : hOk k S) (K : ∀ M', cRl M' (fnR n S (rq_least p S)).2 → ctx M' (fnR n S (rq_least p S)).1 → cEnd M M' → Q none M') : wp (kcs L xs) (d + 25) 17 22 [some (jR 0), some (jI n), none] [jI 11] M Q := by
  refine cw_np (r := (rq_least p S).2.2) ⟨by omega, by omega⟩ (by unfold lgV; omega) (by omega) h hS hk K (fun hSN h30 R hR => ⟨fun h => by omega, fun _ _ => ?_, fun h => by omega, fun h => by omega, fun h => by omega, fun h => by omega, fun h => by omega, fun h => by omega⟩)
  refine s74 (cl_learn (d := d + 20) hSN hk h30 (fun N n1 n2 n3 n4 n5 n6 n7 => s74_7 ⟨⟨by omega, by omega⟩, fun h => by omega, fun h => by omega, fun h => by omega, fun h => by omega, fun _ => ?_, fun h => by omega, fun h => by omega⟩))
  refine sp_least (d := d + 9) hk.1 n2 (ca_ok0 n3) (fun e => s74_130 ⟨⟨by omega, by omega⟩, fun _ => ?_, fun h => absurd rfl h⟩) (fun e M' m1 m2 m3 => s74_130 ⟨⟨by omega, by omega⟩, fun h => by omega, fun _ => ?_⟩)
  · have ha : (rq_least p S).2.2 = (tNot1, S) := by
      unfold rq_least
      rw [if_neg e, if_neg e]
    rw [ha] at hR
    obtain ⟨r1, r2, r3⟩ := fi_wr (cs := tNot1) n1 hk.2.2.2.2.1 n3 (Nat.le_trans tNot1_len (by omega)) cwr_o
    exact hR _ r1 r2 (cEnd_tr n4 r3)
  · have ha : (rq_least p S).2.2 = (tLeast S.1, (zLe S.1, pv_new S.2.1, S.2.2)) := by
      unfold rq_least
      rw [if_pos e, if_pos e]
    rw [ha] at hR
    have f : ∀ b j, b ≠ 3 → b ≠ 4 → b ≠ 17 → M' b j = N b j := fun b j b1 b2 b3 => by rw [m1 b j (by omega), o_app_ne b1 b2]
    refine sp_pbegin (d := d + 22) (cpv_fr n1.2.2.1 (fun b j b1 b2 => f b j (by omega) (by omega) (by omega))) (fun P p1 p2 => s74_140 ?_)
    refine hR P ?_ ?_ (cEnd_tr n4 (fun b j hb => by rw [p2 b j (by omega), f b j (by omega) (by omega) (by omega)]))
    · exact cRl_mk n1 hk.2.2.2.2.1 (cz_fr m2.1 (fun b j b1 b2 => p2 b j (by omega))) p1 (fun b j hb => by rw [p2 b j (by omega), f b j (by omega) (by omega) (by omega)])
    · exact ctx_out n3 (Nat.le_trans wd_len (by omega)) (by rw [p2 3 1 (by omega), m1 3 1 (by omega)]) (fun j => by rw [p2 4 j (by omega), m1 4 j (by omega)])
theorem cw_prove {n p : Int} (h : cIn M n p 0) (hS : cRl M S) (hk : hOk k S) (K : ∀ M', cRl M' (fnR n S (rq_prove p S)).2 → ctx M' (fnR n S (rq_prove p S)).1 → cEnd M M' → Q none M') : wp (kcs L xs) (d + 25) 17 22 [some (jR 0), some (jI n), none] [jI 14] M Q := by
  refine cw_np (r := (rq_prove p S).2.2) ⟨by omega, by omega⟩ (by unfold lgV; omega) (by omega) h hS hk K (fun hSN h30 R hR => ⟨fun h => by omega, fun _ h => by omega, fun _ _ => ?_, fun h => by omega, fun h => by omega, fun h => by omega, fun h => by omega, fun h => by omega⟩)
  refine s103 (cl_learn (d := d + 20) hSN hk h30 (fun N n1 n2 n3 n4 n5 n6 n7 => s103_7 ⟨⟨by omega, by omega⟩, fun _ => ?_, fun h => by omega, fun h => by omega, fun h => by omega, fun h => by omega, fun h => by omega, fun h => by omega⟩))
  refine sp_prove (d := d + 6) hk.1 n2 n3 (fun M' m1 m2 => s103_55 ?_)
  obtain ⟨r1, r2⟩ := fi_fr (cs := []) n1 hk.2.2.2.2.1 m1
  exact hR _ r1 m2 (cEnd_tr n4 r2)
theorem cw_grade {n p : Int} (h : cIn M n p 0) (hS : cRl M S) (hk : hOk k S) (K : ∀ M', cRl M' (fnR n S (rq_grade p S)).2 → ctx M' (fnR n S (rq_grade p S)).1 → cEnd M M' → Q none M') : wp (kcs L xs) (d + 25) 17 22 [some (jR 0), some (jI n), none] [jI 16] M Q := by
  refine cw_np (r := (rq_grade p S).2.2) ⟨by omega, by omega⟩ (by unfold lgV; omega) (by omega) h hS hk K (fun hSN h30 R hR => ⟨fun h => by omega, fun _ h => by omega, fun _ _ => ?_, fun h => by omega, fun h => by omega, fun h => by omega, fun h => by omega, fun h => by omega⟩)
  refine s103 (cl_learn (d := d + 20) hSN hk h30 (fun N n1 n2 n3 n4 n5 n6 n7 => s103_7 ⟨⟨by omega, by omega⟩, fun h => by omega, fun h => by omega, fun _ => ?_, fun h => by omega, fun h => by omega, fun h => by omega, fun h => by omega⟩))
  refine sp_gradeC (d := d + 6) hk.1 n2 n3 (fun M' m1 m2 => s103_75 ?_)
  obtain ⟨r1, r2⟩ := fi_fr (cs := []) n1 hk.2.2.2.2.1 m1
  exact hR _ r1 m2 (cEnd_tr n4 r2)
theorem cw_hint {n p : Int} (h : cIn M n p 0) (hS : cRl M S) (hk : hOk k S) (K : ∀ M', cRl M' (fnR n S (rq_hint p S)).2 → ctx M' (fnR n S (rq_hint p S)).1 → cEnd M M' → Q none M') : wp (kcs L xs) (d + 25) 17 22 [some (jR 0), some (jI n), none] [jI 17] M Q := by
  refine cw_np (r := (rq_hint p S).2.2) ⟨by omega, by omega⟩ (by unfold lgV; omega) (by omega) h hS hk K (fun hSN h30 R hR => ⟨fun h => by omega, fun _ h => by omega, fun _ _ => ?_, fun h => by omega, fun h => by omega, fun h => by omega, fun h => by omega, fun h => by omega⟩)
  refine s103 (cl_learn (d := d + 20) hSN hk h30 (fun N n1 n2 n3 n4 n5 n6 n7 => s103_7 ⟨⟨by omega, by omega⟩, fun h => by omega, fun h => by omega, fun h => by omega, fun _ => ?_, fun h => by omega, fun h => by omega, fun h => by omega⟩))
  refine sp_standing (d := d + 20) hk.1 n1.1 n1.2.2.1 hk.2.2.1 hk.2.2.2.1 (fun v hv => s103_93 (sp_hint (d := d + 18) hk.1 n2 (ca_ok0 n3) (s_play_ok hk.1 hk.2.2.1 hk.2.2.2.1) hv (s103_96 ?_)))
  obtain ⟨r1, r2, r3⟩ := fi_wr (cs := hnR S.1 (s_play S.1 S.2.1) S.1.2.2.2.1 0) n1 hk.2.2.2.2.1 n3 (Nat.le_trans (hnR_len _ _) (by omega)) cwr_o
  exact hR _ r1 r2 (cEnd_tr n4 r3)
theorem cw_step {n p : Int} (h : cIn M n p 0) (hS : cRl M S) (hk : hOk k S) (K : ∀ M', cRl M' (fnR n S (rq_step p S)).2 → ctx M' (fnR n S (rq_step p S)).1 → cEnd M M' → Q none M') : wp (kcs L xs) (d + 25) 17 22 [some (jR 0), some (jI n), none] [jI 18] M Q := by
  refine cw_np (r := (rq_step p S).2.2) ⟨by omega, by omega⟩ (by unfold lgV; omega) (by omega) h hS hk K (fun hSN h30 R hR => ⟨fun h => by omega, fun _ h => by omega, fun _ _ => ?_, fun h => by omega, fun h => by omega, fun h => by omega, fun h => by omega, fun h => by omega⟩)
  refine s103 (cl_learn (d := d + 20) hSN hk h30 (fun N n1 n2 n3 n4 n5 n6 n7 => s103_7 ⟨⟨by omega, by omega⟩, fun h => by omega, fun h => by omega, fun h => by omega, fun h => by omega, fun _ => ?_, fun h => by omega, fun h => by omega⟩))
  refine sp_standing (d := d + 20) hk.1 n1.1 n1.2.2.1 hk.2.2.1 hk.2.2.2.1 (fun v hv => s103_114 (sp_step (d := d + 7) hk.1 n2 n3 (s_play_ok hk.1 hk.2.2.1 hk.2.2.2.1) (s_play_nb hk.1) hv (fun M' m1 m2 => s103_117 ?_)))
  obtain ⟨r1, r2⟩ := fi_fr (cs := []) n1 hk.2.2.2.2.1 m1
  exact hR _ r1 m2 (cEnd_tr n4 r2)
theorem cw_solve {n p : Int} (h : cIn M n p 0) (hS : cRl M S) (hk : hOk k S) (K : ∀ M', cRl M' (fnR n S (rq_solve p S)).2 → ctx M' (fnR n S (rq_solve p S)).1 → cEnd M M' → Q none M') : wp (kcs L xs) (d + 25) 17 22 [some (jR 0), some (jI n), none] [jI 19] M Q := by
  refine cw_np (r := (rq_solve p S).2.2) ⟨by omega, by omega⟩ (by unfold lgV; omega) (by omega) h hS hk K (fun hSN h30 R hR => ⟨fun h => by omega, fun _ h => by omega, fun _ _ => ?_, fun h => by omega, fun h => by omega, fun h => by omega, fun h => by omega, fun h => by omega⟩)
  refine s103 (cl_learn (d := d + 20) hSN hk h30 (fun N n1 n2 n3 n4 n5 n6 n7 => s103_7 ⟨⟨by omega, by omega⟩, fun h => by omega, fun h => by omega, fun h => by omega, fun h => by omega, fun h => by omega, fun _ => ?_, fun h => by omega⟩))
  refine sp_standing (d := d + 20) hk.1 n1.1 n1.2.2.1 hk.2.2.1 hk.2.2.2.1 (fun v hv => s103_135 (sp_solve (d := d + 7) hk.1 n2 n3 (s_play_ok hk.1 hk.2.2.1 hk.2.2.2.1) (s_play_nb hk.1) hv (fun M' m1 m2 => s103_138 ?_)))
  obtain ⟨r1, r2⟩ := fi_fr (cs := []) n1 hk.2.2.2.2.1 m1
  exact hR _ r1 m2 (cEnd_tr n4 r2)
theorem cw_teach {n p : Int} (h : cIn M n p 0) (hS : cRl M S) (hk : hOk k S) (K : ∀ M', cRl M' (fnR n S (rq_teach p S)).2 → ctx M' (fnR n S (rq_teach p S)).1 → cEnd M M' → Q none M') : wp (kcs L xs) (d + 25) 17 22 [some (jR 0), some (jI n), none] [jI 20] M Q := by
  refine cw_np (r := (rq_teach p S).2.2) ⟨by omega, by omega⟩ (by unfold lgV; omega) (by omega) h hS hk K (fun hSN h30 R hR => ⟨fun h => by omega, fun _ h => by omega, fun _ _ => ?_, fun h => by omega, fun h => by omega, fun h => by omega, fun h => by omega, fun h => by omega⟩)
  refine s103 (cl_learn (d := d + 20) hSN hk h30 (fun N n1 n2 n3 n4 n5 n6 n7 => s103_7 ⟨⟨by omega, by omega⟩, fun h => by omega, fun h => by omega, fun h => by omega, fun h => by omega, fun h => by omega, fun h => by omega, fun _ => ?_⟩))
  refine sp_teach (d := d + 7) hk.1 n2 n3 (fun M' m1 m2 => s103_148 ?_)
  obtain ⟨r1, r2⟩ := fi_fr (cs := []) n1 hk.2.2.2.2.1 m1
  exact hR _ r1 m2 (cEnd_tr n4 r2)
end RQI
