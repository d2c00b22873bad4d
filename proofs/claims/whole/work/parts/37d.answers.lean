/-! THE STEP: every answer is bytes, and short, or begins no proof. -/
def noP (A : List Int) : Prop := (∃ (x : Int) (l : List Int), A = x :: l ∧ x ≠ 103 ∧ x ≠ 114 ∧ x ≠ 119 ∧ x ≠ 117 ∧ x ≠ 98) ∨ ∃ l : List Int, A = 98 :: 111 :: l
def aOk (A : List Int) : Prop := byt A ∧ A.length ≤ 5600 ∧ (A.length ≤ 3198 ∨ noP A)
theorem aok_s {A : List Int} (h : byt A) (hl : A.length ≤ 3000) : aOk A := ⟨h, by omega, Or.inl (by omega)⟩
theorem aok_ok : aOk t_ok := aok_s byt_ok (by decide)
theorem aok_rf {r : Int} : aOk (t_rf r) := aok_s byt_rf (Nat.le_trans t_rf_len (by omega))
theorem aok_no {w : Int} : aOk (t_no w) := aok_s byt_no (Nat.le_trans t_no_len (by omega))
theorem aok_w {w : Int} : aOk (wls w) := aok_s byt_wls (Nat.le_trans wls_8 (by omega))
theorem aok_wd {w v : Int} : aOk (wls w ++ 32 :: dgs v) := aok_s byt_wd (Nat.le_trans wd_len (by omega))
theorem aok_bad {p : Int} : aOk (t_bad p) := aok_s byt_bad (Nat.le_trans t_bad_len (by omega))
theorem aok_dgs {v : Int} : aOk (dgs v) := aok_s byt_dgs (Nat.le_trans dgs_len (by omega))
theorem dgk_hd {v : Int} : ∀ k : Nat, ∃ (x : Int) (l : List Int), dgk v k = x :: l ∧ 48 ≤ x ∧ x ≤ 57
  | 0 => ⟨_, _, rfl, by have := Int.emod_nonneg v (show (10 : Int) ≠ 0 by decide); omega, by have := Int.emod_lt_of_pos v (show (0 : Int) < 10 by decide); omega⟩
  | k + 1 => by
    refine ⟨_, _, rfl, ?_, ?_⟩
    · have := Int.emod_nonneg (v / ((10 ^ (k + 1) : Nat) : Int)) (show (10 : Int) ≠ 0 by decide)
      omega
    · have := Int.emod_lt_of_pos (v / ((10 ^ (k + 1) : Nat) : Int)) (show (0 : Int) < 10 by decide)
      omega
section ANS
variable {S : HS} {k : Nat} {g : Int → Int} {n p : Int}
theorem an_cov {Z : PZ} (ho : pz_ok Z) {m : Nat} (hm : m ≤ 100) : aOk (tCov Z m) := by
  have hl := tCov_len ho hm
  refine ⟨byt_cov, by omega, ?_⟩
  unfold tCov tCs at hl ⊢
  cases h : (covs Z).take m with
  | nil =>
    left
    rw [List.flatMap_nil, List.nil_append]
    split
    · exact Nat.le_trans wls_8 (by omega)
    · exact Nat.le_trans wls_8 (by omega)
  | cons c C =>
    right
    left
    rw [List.flatMap_cons]
    cases c with
    | nil => exact ⟨32, _, rfl, by decide, by decide, by decide, by decide, by decide⟩
    | cons r l =>
      obtain ⟨x, t, e, x1, x2⟩ := dgk_hd (v := (r : Int)) (dgn (r : Int))
      have e2 : tCw true (r :: l) = x :: (t ++ tCw false l) := by
        rw [tCw]
        show ([] ++ dgk (r : Int) (dgn (r : Int))) ++ tCw false l = _
        rw [e]
        rfl
      rw [e2]
      exact ⟨x, _, rfl, by omega, by omega, by omega, by omega, by omega⟩
theorem an_exp {b : Int → Int} (hb : bk_b b) (hM : bMd b) : aOk (tExp b) := by
  have hrb := bRt_b (g := b)
  have h0 := hb (bRt b) (by omega) (by omega)
  have hx := tEx0_b hb hM.2.1 (fun i hi => ⟨(hM.2.2.2 i (by omega) (by omega)).1, bZ_ok hb (hM.2.2.2 i (by omega) (by omega))⟩)
  refine ⟨byt_app hx.2 byt_dgs, Nat.le_trans (tExp_len hb hM) (by omega), Or.inr (Or.inr ?_)⟩
  have e : wls (wrd 56) = [98, 111, 111, 107] := by decide +kernel
  unfold tExp tEx0
  rw [e]
  exact ⟨_, rfl⟩
theorem proof_len {Z : PZ} : (tProof Z).length ≤ 3000 := by
  unfold tProof
  by_cases c : vFit Z 1
  · rw [if_pos c, List.length_append]
    exact c.2 rfl
  · rw [if_neg c]
    exact Nat.le_trans wls_8 (by omega)
theorem lesson_len {Z : PZ} : (tLesson Z).length ≤ 3000 := by
  unfold tLesson
  split
  · split
    · decide
    · assumption
  · exact Nat.le_trans wls_8 (by omega)
theorem grade_len {Z : PZ} : (tGrade Z).length ≤ 3000 := by
  unfold tGrade
  by_cases c : vFit Z 0
  · rw [if_pos c]
    have h1 := dgs_len (v := ((gOn Z 37 (s_first Z)).2.1 : Nat))
    have h2 := dgs_len (v := ((vZ Z).1 : Nat))
    have h3 := dgs_len (v := ((vZ Z).2.1 : Nat))
    simp only [List.length_append, List.length_cons]
    omega
  · rw [if_neg c]
    exact Nat.le_trans wls_8 (by omega)
theorem step_len {Z : PZ} {T : Nat → Nat} : (tStep Z T).length ≤ 3000 := by
  unfold tStep
  split
  · split <;> exact Nat.le_trans wls_8 (by omega)
  · have h1 := dgs_len (v := (fSt Z T).2.2.2.1)
    have h2 := dgs_len (v := ((fSt Z T).2.2.2.2 : Nat))
    have h3 := dgs_len (v := ((fSt Z T).2.1 : Nat))
    have h4 := dgs_len (v := (fSt Z T).2.2.1)
    have a : (if (fSt Z T).1 = 1 then wls 7302757 else if (fSt Z T).1 = 2 then wls 7632751 else wls 7631481).length ≤ 8 := by
      split
      · exact wls_8
      · split <;> exact wls_8
    have b : (if (fSt Z T).1 < 3 then 32 :: dgs ((fSt Z T).2.1 : Nat) else []).length ≤ 10 := by
      split
      · rw [List.length_cons]
        omega
      · decide
    have c : (if (fSt Z T).1 = 2 then 32 :: dgs (fSt Z T).2.2.1 else []).length ≤ 10 := by
      split
      · rw [List.length_cons]
        omega
      · decide
    simp only [List.length_append, List.length_cons]
    omega
theorem solve_len {Z : PZ} {T : Nat → Nat} : (tSolve Z T).length ≤ 3000 := by
  have h0 := eW_l (e := endZ Z (sRn Z 37 T).1)
  have h1 := dgs_len (v := (sCt (sRn Z 37 T) 1 : Nat))
  have h2 := dgs_len (v := (sCt (sRn Z 37 T) 2 : Nat))
  have h3 := dgs_len (v := (sCt (sRn Z 37 T) 3 : Nat))
  unfold tSolve
  simp only [List.length_append, List.length_cons]
  omega
theorem byt_lst {b : Int → Int} (hH : bHs b) : ∀ m : Nat, (m : Int) ≤ b (bRt b) → byt (tLst b m)
  | 0, _ => byt_nil
  | m + 1, h => by
    rw [tLst]
    refine byt_app (byt_lst hH m (by omega)) (byt_app (fun c hc => ?_) (byt_1 (by omega)))
    have := (bNm_b (hH.2 m (by omega) (by omega))).2.2 c hc
    omega
theorem byt_fnd {Z : PZ} {b : Int → Int} (hH : bHs b) : ∀ m : Nat, (m : Int) ≤ b (bRt b) → byt (tFnd Z b m)
  | 0, _ => byt_nil
  | m + 1, h => by
    rw [tFnd]
    refine byt_app (byt_fnd hH m (by omega)) ?_
    split
    · refine byt_app (fun c hc => ?_) (byt_1 (by omega))
      have := (bNm_b (hH.2 m (by omega) (by omega))).2.2 c hc
      omega
    · exact byt_nil
theorem aok_b {r : List Int × HS} (h : S.2.2.2.1 ≠ 0 → aOk r.1) : aOk (bkS S r).1 := by
  unfold bkS
  split
  · exact aok_w
  · exact h (by assumption)
theorem an_new : aOk (rq_new g n p S).2.2.1 := aok_s byt_chg (Nat.le_trans tChg_len (by omega))
theorem an_rule : aOk (rq_rule g n p S).2.2.1 := aok_s byt_chg (Nat.le_trans tChg_len (by omega))
theorem an_each : aOk (rq_each g n p S).2.2.1 := aok_s byt_chg (Nat.le_trans tChg_len (by omega))
theorem an_give : aOk (rq_give g n p S).2.2.1 := aok_s byt_chg (Nat.le_trans tChg_len (by omega))
theorem an_drop : aOk (rq_drop p S).2.2.1 := by
  show aOk (if S.1.2.2.2.1 = [] then t_norule else t_ok)
  split
  · have e : t_norule = t_no (wrd 1) := by decide +kernel
    rw [e]
    exact aok_no
  · exact aok_ok
theorem an_text (h : hOk k S) : aOk (rq_text p S).2.2.1 := aok_s (byt_text h.1) (Nat.le_trans (tText_b h.1).1 (by omega))
theorem an_load : aOk (rq_load g n p S).2.2.1 := aok_rf
theorem an_ans (h : hOk k S) : aOk (rq_ans g n p S).2.2.1 := by
  show aOk (if 100 < (rBN g n 3 p 0).1 then t_rf 3 else tAns S.1 (rBN g n 3 p 0).1.toNat)
  split
  · exact aok_rf
  · exact aok_s byt_ans (Nat.le_trans (tAns_len h.1 (by omega)) (by omega))
theorem an_many : aOk (rq_many p S).2.2.1 := aok_dgs
theorem an_pick (h : hOk k S) : aOk (rq_pick g n p S).2.2.1 := aok_s byt_pick (Nat.le_trans (tPick_len h.1) (by omega))
theorem an_clash (h : hOk k S) : aOk (rq_clash p S).2.2.1 := aok_s byt_clash (Nat.le_trans (tClash_len h.1) (by omega))
theorem an_least : aOk (rq_least p S).2.2.1 := by
  show aOk (if (ans S.1).length = 1 then tLeast S.1 else tNot1)
  split
  · exact aok_wd
  · exact aok_s byt_not1 (Nat.le_trans tNot1_len (by omega))
theorem an_make : aOk (rq_make g n p S).2.2.1 := by
  show aOk (if 1 < (rCd g n p).1 then tNoKind else if ans (zfre S.1) = [] then wls 1852796517 else tMade S.1 (rBN g n 3 p 0).1 (rCd g n p).1)
  split
  · exact aok_no
  · split
    · exact aok_w
    · exact aok_wd
theorem an_wrong : aOk (rq_wrong p S).2.2.1 := aok_s byt_wrong (Nat.le_trans tWrong_len (by omega))
theorem an_prove (h : hOk k S) : aOk (rq_prove p S).2.2.1 := aok_s (byt_proof h.1) proof_len
theorem an_check : aOk (rq_check g n p S).2.2.1 := by
  unfold rq_check
  split
  · exact aok_s (byt_ck _ _) (Nat.le_trans (tCk_len tCkE_len _ _) (by omega))
  · exact aok_s byt_nil (show ([] : List Int).length ≤ 3000 by decide)
theorem an_grade : aOk (rq_grade p S).2.2.1 := aok_s byt_grade grade_len
theorem an_hint : aOk (rq_hint p S).2.2.1 := aok_s (byt_hnR _ _) (Nat.le_trans (hnR_len _ _) (by omega))
theorem an_step : aOk (rq_step p S).2.2.1 := aok_s byt_step step_len
theorem an_solve : aOk (rq_solve p S).2.2.1 := aok_s byt_solve solve_len
theorem an_teach (h : hOk k S) : aOk (rq_teach p S).2.2.1 := aok_s (byt_lesson h.1) lesson_len
theorem an_form (h : hOk k S) : aOk (rq_form p S).2.2.1 := by
  refine aok_s (byt_form h.1 h.2.1) ?_
  show (fmT S.1).length ≤ 3000
  by_cases e : ∃ Y, isMin S.1 Y
  · obtain ⟨Y, hY⟩ := e
    have := (tText_b (isMin_ok h.1 h.2.1 hY).1).1
    rw [fmT_e h.1 h.2.1 hY]
    omega
  · unfold fmT
    rw [dif_neg e]
    decide
theorem an_vary : aOk (rq_vary g n p S).2.2.1 := aok_ok
theorem an_cover (h : hOk k S) : aOk (rq_cover g n p S).2.2.1 := by
  show aOk (if 100 < (rBN g n 3 p 0).1 then t_rf 3 else tCov S.1 (rBN g n 3 p 0).1.toNat)
  split
  · exact aok_rf
  · exact an_cov h.1 (by omega)
theorem an_barred (h : hOk k S) : aOk (rq_barred p S).2.2.1 := aok_s (byt_bar h.1) (Nat.le_trans (tBar_len h.1) (by omega))
theorem an_person : aOk (rq_person g n p S).2.2.1 := by
  show aOk (t_who _)
  unfold t_who
  split
  · exact aok_ok
  · exact aok_no
theorem an_put : aOk (rq_put g n p S).2.2.1 := by
  show aOk (t_pt _)
  unfold t_pt
  split
  · exact aok_ok
  · split
    · exact aok_rf
    · split
      · exact aok_w
      · split
        · exact aok_rf
        · split
          · exact aok_w
          · exact aok_rf
theorem an_unT {r : Int × fx_M} : aOk (unT r) := by
  unfold unT
  split
  · exact aok_ok
  · exact aok_no
theorem an_undo : aOk (rq_undo p S).2.2.1 := an_unT
theorem an_redo : aOk (rq_redo g n p S).2.2.1 := an_unT
theorem an_state (h : hOk k S) : aOk (rq_state p S).2.2.1 := aok_s (byt_st h.2.2.1 (fun s hs => by have := h.1.2.2.2.2.2.2.2.2.2.1 s hs; have := h.1.2.2.2.2.2.1; omega) (pz_n h.1).2) (Nat.le_trans (t_stL h.1) (by omega))
theorem an_mark : aOk (rq_mark g n p S).2.2.1 := by
  show aOk (t_mk _)
  unfold t_mk
  split
  · exact aok_rf
  · split
    · exact aok_w
    · split
      · exact aok_rf
      · split
        · exact aok_s (byt_cons (by omega) (byt_1 (by omega))) (by decide)
        · exact aok_s (byt_cons (by omega) (byt_cons (by omega) (byt_1 (by omega)))) (by decide)
theorem an_marks : aOk (rq_marks g n p S).2.2.1 := by
  refine aok_s ?_ (Nat.le_trans t_mks_len (by omega))
  show byt (t_mks _ _ _)
  unfold t_mks
  split
  · refine byt_app (byt_fm (fun s hs => ?_)) (byt_1 (by omega))
    have := List.mem_range.mp hs
    split
    · exact byt_nil
    · exact byt_1 (by omega)
  · exact byt_rf
theorem an_contest : aOk (rq_contest p S).2.2.1 := aok_ok
theorem an_set : aOk (rq_set g n p S).2.2.1 := by
  show aOk (if S.2.2.2.1 = 0 then wls 1936225652 else stW (stP S.2.2.2.2.1 (stN g n p) S.2.2.1 (rSt g n p).1).1)
  split
  · exact aok_w
  · unfold stW
    split
    · exact aok_no
    · split
      · exact aok_w
      · split
        · exact aok_rf
        · exact aok_ok
theorem an_submit : aOk (rq_submit g n p S).2.2.1 := by
  show aOk (sbT _)
  unfold sbT
  split
  · exact aok_no
  · split
    · exact aok_no
    · split
      · exact aok_w
      · split
        · exact aok_no
        · split
          · exact aok_w
          · exact aok_w
theorem an_table : aOk (rq_table p S).2.2.1 := aok_s (byt_fm (fun q _ => byt_app (byt_app (byt_app byt_dgs (byt_32 byt_dgs)) (byt_32 byt_dgs)) (byt_1 (by omega)))) (Nat.le_trans tTab_len (by omega))
theorem an_keep : aOk (rq_keep g n p S).2.2.1 := by
  refine aok_b (fun _ => ?_)
  by_cases e : kpF S.2.2.2.2.1 (stN g n p) S.1
  · rw [if_pos e]
    exact aok_rf (r := 4)
  · rw [if_neg e]
    exact aok_ok
theorem an_open : aOk (rq_open g n p S).2.2.1 := by
  refine aok_b (fun _ => ?_)
  split
  · exact aok_no
  · exact aok_ok
theorem an_remove : aOk (rq_remove g n p S).2.2.1 := by
  refine aok_b (fun _ => ?_)
  split
  · exact aok_no
  · exact aok_ok
theorem bk_15 (h : hOk k S) (ho : S.2.2.2.1 ≠ 0) : bMd S.2.2.2.2.1 ∧ ((S.2.2.2.2.1 (bRt S.2.2.2.2.1)).toNat : Int) ≤ S.2.2.2.2.1 (bRt S.2.2.2.2.1) ∧ (S.2.2.2.2.1 (bRt S.2.2.2.2.1)).toNat ≤ 15 := by
  have hM := h.2.2.2.2.2.2.2.1 (by have := h.2.2.2.2.2.1; omega)
  have hrb := bRt_b (g := S.2.2.2.2.1)
  have h0 := h.2.2.2.2.2.2.1 (bRt S.2.2.2.2.1) (by omega) (by omega)
  have h15 := hM.2.1
  exact ⟨hM, by omega, by omega⟩
theorem an_list (h : hOk k S) : aOk (rq_list p S).2.2.1 := aok_b (fun ho => by
  obtain ⟨a, b, c⟩ := bk_15 h ho
  have hl := tLst_len (bMd_H a) _ b
  refine aok_s (byt_app (byt_lst (bMd_H a) _ b) (byt_1 (by omega))) ?_
  show (tLst S.2.2.2.2.1 (S.2.2.2.2.1 (bRt S.2.2.2.2.1)).toNat ++ [46]).length ≤ 3000
  rw [List.length_append, List.length_singleton]
  omega)
theorem an_find (h : hOk k S) : aOk (rq_find p S).2.2.1 := aok_b (fun ho => by
  obtain ⟨a, b, c⟩ := bk_15 h ho
  have hl := tFnd_len (Z := S.1) (bMd_H a) _ b
  refine aok_s (byt_app (byt_fnd (bMd_H a) _ b) (byt_1 (by omega))) ?_
  show (tFnd S.1 S.2.2.2.2.1 (S.2.2.2.2.1 (bRt S.2.2.2.2.1)).toNat ++ [46]).length ≤ 3000
  rw [List.length_append, List.length_singleton]
  omega)
theorem an_export (h : hOk k S) : aOk (rq_export p S).2.2.1 := aok_b (fun ho => an_exp h.2.2.2.2.2.2.1 (bk_15 h ho).1)
theorem an_cut : aOk (rq_cut g n p S).2.2.1 := by
  unfold rq_cut
  by_cases e : ctC S (rBN g n 3 p 0).1
  · rw [if_pos e]
    exact aok_ok
  · rw [if_neg e]
    exact aok_no
theorem an_mend : aOk (rq_mend p S).2.2.1 := by
  show aOk (if mdB S.2.2.2.2.1 = 1 then t_ok else wls 1953460846)
  split
  · exact aok_ok
  · exact aok_w
theorem an_import : aOk (rq_import g n p S).2.2.1 := by
  refine aok_b (fun _ => ?_)
  refine aok_s ?_ (Nat.le_trans tImp_len (by omega))
  show byt (tImp _ _ _ _ _ _)
  unfold tImp
  split
  · exact byt_no
  · split
    · exact byt_no
    · split
      · exact byt_rf
      · split
        · exact byt_ok
        · exact byt_rf
theorem an_f {r : RQ} (hr : aOk r.2.2.1) : aOk (fnR n S r).1 := by
  unfold fnR
  split
  · exact aok_bad
  · exact hr
theorem an_all0 {v : Int} (hv : 0 ≤ v ∧ v < 15) (h : hOk k S) : aOk (fnR n S (rqA g n S v p)).1 := by
  have hc : v = 0 ∨ v = 1 ∨ v = 2 ∨ v = 3 ∨ v = 4 ∨ v = 5 ∨ v = 6 ∨ v = 7 ∨ v = 8 ∨ v = 9 ∨ v = 10 ∨ v = 11 ∨ v = 12 ∨ v = 13 ∨ v = 14 := by omega
  rcases hc with e | e | e | e | e | e | e | e | e | e | e | e | e | e | e
  · rw [e]
    exact an_f an_new
  · rw [e]
    exact an_f an_rule
  · rw [e]
    exact an_f an_each
  · rw [e]
    exact an_f an_give
  · rw [e]
    exact an_f an_drop
  · rw [e]
    exact an_f (an_text h)
  · rw [e]
    exact an_f an_load
  · rw [e]
    exact an_f (an_ans h)
  · rw [e]
    exact an_f an_many
  · rw [e]
    exact an_f (an_pick h)
  · rw [e]
    exact an_f (an_clash h)
  · rw [e]
    exact an_f an_least
  · rw [e]
    exact an_f an_make
  · rw [e]
    exact an_f an_wrong
  · rw [e]
    exact an_f (an_prove h)
theorem an_all1 {v : Int} (hv : 15 ≤ v ∧ v < 30) (h : hOk k S) : aOk (fnR n S (rqA g n S v p)).1 := by
  have hc : v = 15 ∨ v = 16 ∨ v = 17 ∨ v = 18 ∨ v = 19 ∨ v = 20 ∨ v = 21 ∨ v = 22 ∨ v = 23 ∨ v = 24 ∨ v = 25 ∨ v = 26 ∨ v = 27 ∨ v = 28 ∨ v = 29 := by omega
  rcases hc with e | e | e | e | e | e | e | e | e | e | e | e | e | e | e
  · rw [e]
    exact an_f an_check
  · rw [e]
    exact an_f an_grade
  · rw [e]
    exact an_f an_hint
  · rw [e]
    exact an_f an_step
  · rw [e]
    exact an_f an_solve
  · rw [e]
    exact an_f (an_teach h)
  · rw [e]
    exact an_f (an_form h)
  · rw [e]
    exact an_f an_vary
  · rw [e]
    exact an_f (an_cover h)
  · rw [e]
    exact an_f (an_barred h)
  · rw [e]
    exact an_f an_person
  · rw [e]
    exact an_f an_put
  · rw [e]
    exact an_f an_undo
  · rw [e]
    exact an_f an_redo
  · rw [e]
    exact an_f (an_state h)
theorem an_all2 {v : Int} (hv : 30 ≤ v ∧ v < 45) (h : hOk k S) : aOk (fnR n S (rqA g n S v p)).1 := by
  have hc : v = 30 ∨ v = 31 ∨ v = 32 ∨ v = 33 ∨ v = 34 ∨ v = 35 ∨ v = 36 ∨ v = 37 ∨ v = 38 ∨ v = 39 ∨ v = 40 ∨ v = 41 ∨ v = 42 ∨ v = 43 ∨ v = 44 := by omega
  rcases hc with e | e | e | e | e | e | e | e | e | e | e | e | e | e | e
  · rw [e]
    exact an_f an_mark
  · rw [e]
    exact an_f an_marks
  · rw [e]
    exact an_f an_contest
  · rw [e]
    exact an_f an_set
  · rw [e]
    exact an_f an_submit
  · rw [e]
    exact an_f an_table
  · rw [e]
    exact an_f an_keep
  · rw [e]
    exact an_f an_open
  · rw [e]
    exact an_f an_remove
  · rw [e]
    exact an_f (an_list h)
  · rw [e]
    exact an_f an_cut
  · rw [e]
    exact an_f an_mend
  · rw [e]
    exact an_f (an_export h)
  · rw [e]
    exact an_f an_import
  · rw [e]
    exact an_f (an_find h)
theorem an_F (h : hOk k S) (hn : 0 ≤ n) : aOk (rqF g n S).1 := by
  have hw := swW (g := g) (e := n) (p := 0)
  unfold rqF
  generalize chs g n 0 bsW = q at *
  split
  · exact aok_bad
  · have h45 : q.1 < 45 := by
      rcases hw.2 with hx | hx
      · omega
      · omega
    by_cases c1 : q.1 < 15
    · exact an_all0 ⟨by omega, by omega⟩ h
    · by_cases c2 : q.1 < 30
      · exact an_all1 ⟨by omega, by omega⟩ h
      · exact an_all2 ⟨by omega, by omega⟩ h
end ANS
