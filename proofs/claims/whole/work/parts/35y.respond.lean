/-! REQUESTS, the class: any text. -/
abbrev RQ : Type := Int × Int × List Int × HS
noncomputable def rqL : List ((Int → Int) → Int → Int → HS → RQ) := [rq_new, rq_rule, rq_each, rq_give, fun _ _ p S => rq_drop p S, fun _ _ p S => rq_text p S, rq_load, rq_ans, fun _ _ p S => rq_many p S, rq_pick, fun _ _ p S => rq_clash p S, fun _ _ p S => rq_least p S, rq_make, fun _ _ p S => rq_wrong p S, fun _ _ p S => rq_prove p S, rq_check, fun _ _ p S => rq_grade p S, fun _ _ p S => rq_hint p S, fun _ _ p S => rq_step p S, fun _ _ p S => rq_solve p S, fun _ _ p S => rq_teach p S, fun _ _ p S => rq_form p S, rq_vary, rq_cover, fun _ _ p S => rq_barred p S, rq_person, rq_put, fun _ _ p S => rq_undo p S, rq_redo, fun _ _ p S => rq_state p S, rq_mark, rq_marks, fun _ _ p S => rq_contest p S, rq_set, rq_submit, fun _ _ p S => rq_table p S, rq_keep, rq_open, rq_remove, fun _ _ p S => rq_list p S, rq_cut, fun _ _ p S => rq_mend p S, fun _ _ p S => rq_export p S, rq_import, fun _ _ p S => rq_find p S]
/-- word v, arguments from p on -/
noncomputable def rqA (g : Int → Int) (n : Int) (S : HS) (v p : Int) : RQ := (rqL.getD v.toNat (fun _ _ p S => (p, 1, [], S))) g n p S
/-- the answer to the text g up to n, and the state then -/
noncomputable def rqF (g : Int → Int) (n : Int) (S : HS) : List Int × HS := if (chs g n 0 bsW).1 < 0 then (t_bad (chs g n 0 bsW).2.2, S) else fnR n S (rqA g n S (chs g n 0 bsW).1 (chs g n 0 bsW).2.1)
section RQY
variable {L : Nat} {xs : Nat → Int32} {d : Nat} {M : fx_M} {Q : Option fx_V → fx_M → Prop} {S : HS} {k : Nat}
theorem cw_all0 {n p v : Int} (hv : 0 ≤ v ∧ v < 15) (h : cIn M n p 0) (hS : cRl M S) (hk : hOk k S) (K : ∀ M', cRl M' (fnR n S (rqA (M 2) n S v p)).2 → ctx M' (fnR n S (rqA (M 2) n S v p)).1 → cEnd M M' → Q none M') : wp (kcs L xs) (d + 25) 17 22 [some (jR 0), some (jI n), none] [jI v] M Q := by
  have hc : v = 0 ∨ v = 1 ∨ v = 2 ∨ v = 3 ∨ v = 4 ∨ v = 5 ∨ v = 6 ∨ v = 7 ∨ v = 8 ∨ v = 9 ∨ v = 10 ∨ v = 11 ∨ v = 12 ∨ v = 13 ∨ v = 14 := by omega
  rcases hc with e | e | e | e | e | e | e | e | e | e | e | e | e | e | e
  · rw [e] at K ⊢
    exact cw_new h hS hk K
  · rw [e] at K ⊢
    exact cw_rule h hS hk K
  · rw [e] at K ⊢
    exact cw_each h hS hk K
  · rw [e] at K ⊢
    exact cw_give h hS hk K
  · rw [e] at K ⊢
    exact cw_drop h hS hk K
  · rw [e] at K ⊢
    exact cw_text h hS hk K
  · rw [e] at K ⊢
    exact cw_load h hS hk K
  · rw [e] at K ⊢
    exact cw_ans h hS hk K
  · rw [e] at K ⊢
    exact cw_many h hS hk K
  · rw [e] at K ⊢
    exact cw_pick h hS hk K
  · rw [e] at K ⊢
    exact cw_clash h hS hk K
  · rw [e] at K ⊢
    exact cw_least h hS hk K
  · rw [e] at K ⊢
    exact cw_make h hS hk K
  · rw [e] at K ⊢
    exact cw_wrong h hS hk K
  · rw [e] at K ⊢
    exact cw_prove h hS hk K
theorem cw_all1 {n p v : Int} (hv : 15 ≤ v ∧ v < 30) (h : cIn M n p 0) (hS : cRl M S) (hk : hOk k S) (hl : v = 15 → (rCk (M 2) n p).1.length ≤ 1600) (K : ∀ M', cRl M' (fnR n S (rqA (M 2) n S v p)).2 → ctx M' (fnR n S (rqA (M 2) n S v p)).1 → cEnd M M' → Q none M') : wp (kcs L xs) (d + 25) 17 22 [some (jR 0), some (jI n), none] [jI v] M Q := by
  have hc : v = 15 ∨ v = 16 ∨ v = 17 ∨ v = 18 ∨ v = 19 ∨ v = 20 ∨ v = 21 ∨ v = 22 ∨ v = 23 ∨ v = 24 ∨ v = 25 ∨ v = 26 ∨ v = 27 ∨ v = 28 ∨ v = 29 := by omega
  rcases hc with e | e | e | e | e | e | e | e | e | e | e | e | e | e | e
  · rw [e] at K ⊢
    exact cw_check h hS hk (hl e) K
  · rw [e] at K ⊢
    exact cw_grade h hS hk K
  · rw [e] at K ⊢
    exact cw_hint h hS hk K
  · rw [e] at K ⊢
    exact cw_step h hS hk K
  · rw [e] at K ⊢
    exact cw_solve h hS hk K
  · rw [e] at K ⊢
    exact cw_teach h hS hk K
  · rw [e] at K ⊢
    exact cw_form h hS hk K
  · rw [e] at K ⊢
    exact cw_vary h hS hk K
  · rw [e] at K ⊢
    exact cw_cover h hS hk K
  · rw [e] at K ⊢
    exact cw_barred h hS hk K
  · rw [e] at K ⊢
    exact cw_person h hS hk K
  · rw [e] at K ⊢
    exact cw_put h hS hk K
  · rw [e] at K ⊢
    exact cw_undo h hS hk K
  · rw [e] at K ⊢
    exact cw_redo h hS hk K
  · rw [e] at K ⊢
    exact cw_state h hS hk K
theorem cw_all2 {n p v : Int} (hv : 30 ≤ v ∧ v < 45) (h : cIn M n p 0) (hS : cRl M S) (hk : hOk k S) (K : ∀ M', cRl M' (fnR n S (rqA (M 2) n S v p)).2 → ctx M' (fnR n S (rqA (M 2) n S v p)).1 → cEnd M M' → Q none M') : wp (kcs L xs) (d + 25) 17 22 [some (jR 0), some (jI n), none] [jI v] M Q := by
  have hc : v = 30 ∨ v = 31 ∨ v = 32 ∨ v = 33 ∨ v = 34 ∨ v = 35 ∨ v = 36 ∨ v = 37 ∨ v = 38 ∨ v = 39 ∨ v = 40 ∨ v = 41 ∨ v = 42 ∨ v = 43 ∨ v = 44 := by omega
  rcases hc with e | e | e | e | e | e | e | e | e | e | e | e | e | e | e
  · rw [e] at K ⊢
    exact cw_mark h hS hk K
  · rw [e] at K ⊢
    exact cw_marks h hS hk K
  · rw [e] at K ⊢
    exact cw_contest h hS hk K
  · rw [e] at K ⊢
    exact cw_set h hS hk K
  · rw [e] at K ⊢
    exact cw_submit h hS hk K
  · rw [e] at K ⊢
    exact cw_table h hS hk K
  · rw [e] at K ⊢
    exact cw_keep h hS hk K
  · rw [e] at K ⊢
    exact cw_open h hS hk K
  · rw [e] at K ⊢
    exact cw_remove h hS hk K
  · rw [e] at K ⊢
    exact cw_list h hS hk K
  · rw [e] at K ⊢
    exact cw_cut h hS hk K
  · rw [e] at K ⊢
    exact cw_mend h hS hk K
  · rw [e] at K ⊢
    exact cw_export h hS hk K
  · rw [e] at K ⊢
    exact cw_import h hS hk K
  · rw [e] at K ⊢
    exact cw_find h hS hk K
theorem st_m_ne {n : Int} {b : Nat} {j : Int} (h : b ≠ 7) : (st_m M n) b j = M b j := by
  unfold st_m
  rw [fx_up_na h, fx_up_na h, fx_up_na h, fx_up_na h, fx_up_na h]
theorem ch_m_ne {q : Int × Int × Int} {b : Nat} {j : Int} (h : b ≠ 7) : (ch_m M 7 q) b j = M b j := by
  unfold ch_m
  rw [fx_up_na h, fx_up_na h]
theorem c_resp {n : Int} (hn : 0 ≤ n ∧ n ≤ 5606) (hr : ∀ j : Int, 0 ≤ j → j < 5606 → 0 ≤ M 2 j ∧ M 2 j ≤ 65535) (hS : cRl M S) (hk : hOk k S) (hl : (chs (M 2) n 0 bsW).1 = 15 → (rCk (M 2) n (chs (M 2) n 0 bsW).2.1).1.length ≤ 1600) (K : ∀ M', cRl M' (rqF (M 2) n S).2 → ctx M' (rqF (M 2) n S).1 → cEnd M M' → Q none M') : wc (kcs L xs) (d + 25) 17 [jR 0, jI n] M Q := by
  refine resp_start (d := d + 20) hn hr ?_
  have hb := chs_b (g := M 2) (e := n) (p := 0) (bs := bsW) hn.1
  have hw := swW (g := M 2) (e := n) (p := 0)
  have hst := st_m_at (M := M) hn hr
  generalize hq : chs (M 2) n 0 bsW = q at *
  have f : ∀ b j, b ≠ 7 → (ch_m (st_m M n) 7 q) b j = M b j := fun b j h => by rw [ch_m_ne h, st_m_ne h]
  have hS' : cRl (ch_m (st_m M n) 7 q) S := cRl_fr hS hk.2.2.2.2.1 (fun b j hb => f b j (by omega))
  have g2 : (ch_m (st_m M n) 7 q) 2 = M 2 := funext (fun j => f 2 j (by decide))
  have hE : cEnd M (ch_m (st_m M n) 7 q) := fun b j hb => f b j (by omega)
  have e71 : (st_m M n) 7 1 = 0 := by simp [st_m, fx_up]
  have e72 : (ch_m (st_m M n) 7 q) 7 2 = n := by
    unfold ch_m
    rw [fx_up_nk (by decide), fx_up_nk (by decide)]
    simp [st_m, fx_up]
  have e74 : (ch_m (st_m M n) 7 q) 7 4 = 1000001 := by
    unfold ch_m
    rw [fx_up_nk (by decide), fx_up_nk (by decide)]
    simp [st_m, fx_up]
  have e70 : (ch_m (st_m M n) 7 q) 7 0 = (st_m M n) 7 0 := by
    unfold ch_m
    rw [fx_up_nk (by decide), fx_up_nk (by decide)]
  have e73 : (ch_m (st_m M n) 7 q) 7 3 = (if q.1 < 0 then 1 else 0) := by
    unfold ch_m
    rw [fx_up_nk (by decide), fx_up_self]
  have e71' : (ch_m (st_m M n) 7 q) 7 1 = (if q.1 < 0 then q.2.2 else q.2.1) := by
    unfold ch_m
    rw [fx_up_self, e71, Int.zero_add]
  have hsc : ∀ p : Int, (if q.1 < 0 then q.2.2 else q.2.1) = p → 0 ≤ p ∧ p ≤ n → sc_at (ch_m (st_m M n) 7 q) 7 2 5606 := fun p hp hpb => by
    obtain ⟨s1, s2, s3, s4, s5, s6, s7, s8, s9⟩ := hst
    refine ⟨by rw [e70]; exact s1, s2, s3, by rw [e71', hp]; omega, by rw [e71', hp, e72]; omega, by rw [e72]; omega, ?_, ?_, fun j j0 j1 => by rw [g2]; exact hr j j0 j1⟩
    · rw [e73]
      split <;> omega
    · rw [e73]
      split <;> omega
  unfold rqF at K
  rw [hq] at K
  by_cases hv : q.1 < 0
  · have hv1 : q.1 = -1 := by omega
    rw [if_pos hv] at K e73 e71'
    rw [hv1]
    refine cw_bad (p := q.2.2) ⟨hsc q.2.2 (if_pos hv) (by omega), e71', e72, e73, e74⟩ hS' hk (fun M' m1 m2 m3 => K M' m1 m2 (cEnd_tr hE m3))
  · have hv45 : 0 ≤ q.1 ∧ q.1 < 45 := by
      rcases hw.2 with hx | hx
      · omega
      · omega
    rw [if_neg hv] at K e73 e71'
    have hin : cIn (ch_m (st_m M n) 7 q) n q.2.1 0 := ⟨hsc q.2.1 (if_neg hv) (by omega), e71', e72, e73, e74⟩
    have K' : ∀ M', cRl M' (fnR n S (rqA ((ch_m (st_m M n) 7 q) 2) n S q.1 q.2.1)).2 → ctx M' (fnR n S (rqA ((ch_m (st_m M n) 7 q) 2) n S q.1 q.2.1)).1 → cEnd (ch_m (st_m M n) 7 q) M' → Q none M' := fun M' m1 m2 m3 => by
      rw [g2] at m1 m2
      exact K M' m1 m2 (cEnd_tr hE m3)
    by_cases c1 : q.1 < 15
    · exact cw_all0 ⟨by omega, by omega⟩ hin hS' hk K'
    · by_cases c2 : q.1 < 30
      · exact cw_all1 ⟨by omega, by omega⟩ hin hS' hk (fun e => by rw [g2]; exact hl e) K'
      · exact cw_all2 ⟨by omega, by omega⟩ hin hS' hk K'
end RQY
