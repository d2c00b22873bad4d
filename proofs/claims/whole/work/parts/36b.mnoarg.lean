/-! REQUESTS, the reference: those without arguments. -/
/-- what stays while puzzle and play change -/
def mC2 (b : Nat) (j : Int) : Prop := (b < 133 ∨ b = 134 ∨ (b = 133 ∧ (j = 0 ∨ j = 1 ∨ j = 89 ∨ j = 96 ∨ (99 ≤ j ∧ j ≤ 102)))) ∨ (∃ u : Int, 4 ≤ u ∧ u ≤ 9 ∧ ucell u b j) ∨ (182 ≤ b ∧ b ≤ 189)
theorem mC2_b {b : Nat} {j : Int} (h : mC2 b j) : (b < 133 ∨ b = 134 ∨ (b = 133 ∧ (j = 0 ∨ j = 1 ∨ j = 89 ∨ j = 96 ∨ (99 ≤ j ∧ j ≤ 102)))) ∨ (146 ≤ b ∧ b ≤ 154) ∨ (182 ≤ b ∧ b ≤ 189) := by
  rcases h with h | ⟨u, _, _, h⟩ | h
  · exact Or.inl h
  · exact Or.inr (Or.inl (uc_b h))
  · exact Or.inr (Or.inr h)
theorem mC2_u {b : Nat} {j u : Int} (h : mC2 b j) (hu : 0 ≤ u ∧ u ≤ 3) : ¬ ucell u b j := by
  rcases h with h | ⟨v, v1, v2, h⟩ | h
  · intro x
    have := uc_b x
    omega
  · exact uc_n h (by omega)
  · intro x
    have := uc_b x
    omega
theorem mC2_s {b : Nat} {j : Int} (h : mC2 b j) : ¬ msc b j := by
  have := mC2_b h
  unfold msc
  omega
theorem mC2_g {b : Nat} {j : Int} (h : mC2 b j) : ¬ (b = 154 ∧ 0 ≤ j ∧ j < 9) := by
  have := mC2_u h (u := 0) (by omega)
  unfold ucell at this
  omega
section MRB
variable {kc : List va_E} {d : Nat} {M N : fx_M} {Q : Option fx_V → fx_M → Prop} {S : HS} {k : Nat}
theorem mf_z {cs : List Int} {Z' : PZ} {V' : fx_M} (hS : mRl M S) (hk : hOk k S) (hz : mz N 0 Z') (hv : mpv N V') (ht : mtq N cs) (f : ∀ b j, mC2 b j → N b j = M b j) : mRl N (Z', V', S.2.2) ∧ mtq N cs ∧ mEnd M N := by
  obtain ⟨h1, h2, h3, h4, h5, h6⟩ := hS
  refine ⟨⟨hz, hv, mct_uc h3 hk.2.2.2.2.1 (f 133 89 (Or.inl (by omega))) (fun b j hb => f b j (Or.inr (hb.imp id (fun x => ⟨x.1, by omega⟩)))), (f 133 96 (Or.inl (by omega))).trans h4, mbk_fr h5 (fun j => f 188 j (Or.inr (Or.inr (by omega)))), mlg_fr h6 (fun b j hb => ?_)⟩, ht, fun b j hb => f b j (Or.inl (by omega))⟩
  rcases hb with hb | hb
  · exact f b j (Or.inl (by omega))
  · exact f b j (Or.inr (Or.inr (by omega)))
theorem mf_pl {cs : List Int} {V' : fx_M} (hS : mRl M S) (hk : hOk k S) (h5 : M 133 5 = 0) (hl : cs.length ≤ 6000) (hv : mpv N V') (f : ∀ b j, ¬ (174 ≤ b ∧ b ≤ 181) → ¬ (b = 133 ∧ j = 80) → N b j = M b j) : mRl (m_app N cs) (S.1, V', S.2.2) ∧ mtq (m_app N cs) cs ∧ mEnd M (m_app N cs) := by
  have e5 : N 133 5 = 0 := by rw [f 133 5 (by omega) (by omega)]; exact h5
  refine mf_z hS hk ?_ (mpv_fr hv (m_app_ne (by omega) (by omega)) (fun b j b1 b2 => m_app_ne (by omega) (by omega))) (mtq_app0 e5 hl) (fun b j hb => ?_)
  · refine mz_uc hS.1 hk.1 (fun b j hb => ?_)
    have := uc_b hb
    rw [m_app_ne (by omega) (by omega), f b j (by omega) (by omega)]
  · have := mC2_b hb
    rw [m_app_ne (by omega) (by omega), f b j (by omega) (by omega)]
theorem mw_text {n p : Int} (h : mIn M n p) (hS : mRl M S) (hk : hOk k S) (K : ∀ M', mRl M' (fnR n S (rq_text p S)).2 → mtq M' (fnR n S (rq_text p S)).1 → mEnd M M' → Q (some (jI (M' 133 5))) M') : wp kc (d + 20) 219 17 [some (jR 133), none] [jI 5] M Q := by
  obtain ⟨c0, c1, c2, c3, c4, c5, c6⟩ := min_b h
  refine mw_np (r := (rq_text p S).2.2) (by unfold mNp; omega) h hS hk K (fun R hR => ?_)
  refine s257 ⟨⟨by omega, by omega⟩, fun h => by omega, fun h => by omega, fun h => by omega, fun h => by omega, fun h => by omega, fun _ => ?_, fun h => by omega, fun h => by omega, fun h => by omega, fun h => by omega, fun h => by omega, fun h => by omega, fun h => by omega, fun h => by omega, fun h => by omega, fun h => by omega, fun h => by omega, fun h => by omega, fun h => by omega, fun h => by omega, fun h => by omega, fun h => by omega, fun h => by omega, fun h => by omega, fun h => by omega, fun h => by omega, fun h => by omega, fun h => by omega, fun h => by omega, fun h => by omega, fun h => by omega, fun h => by omega, fun h => by omega, fun h => by omega, fun h => by omega, fun h => by omega, fun h => by omega, fun h => by omega, fun h => by omega, fun h => by omega, fun h => by omega, fun h => by omega, fun h => by omega, fun h => by omega, fun h => by omega, fun h => by omega⟩
  refine s379 ⟨⟨by omega, by omega⟩, fun _ => ?_, fun h => by omega, fun h => by omega, fun h => by omega, fun h => by omega, fun h => by omega, fun h => by omega, fun h => by omega, fun h => by omega, fun h => by omega, fun h => by omega, fun h => by omega, fun h => by omega, fun h => by omega, fun h => by omega, fun h => by omega, fun h => by omega, fun h => by omega, fun h => by omega, fun h => by omega⟩
  refine sp_sayText (d := d + 12) ⟨by omega, by omega⟩ hk.1 hS.1 (m_ok0 c3) (s379_97 (s257_306 ?_))
  obtain ⟨r1, r2, r3⟩ := mf_app (cs := tText S.1) hS hk c3 (by have := (tText_b hk.1).1; omega)
  exact hR _ r1 r2 r3
theorem mw_many {n p : Int} (h : mIn M n p) (hS : mRl M S) (hk : hOk k S) (K : ∀ M', mRl M' (fnR n S (rq_many p S)).2 → mtq M' (fnR n S (rq_many p S)).1 → mEnd M M' → Q (some (jI (M' 133 5))) M') : wp kc (d + 20) 219 17 [some (jR 133), none] [jI 8] M Q := by
  obtain ⟨c0, c1, c2, c3, c4, c5, c6⟩ := min_b h
  refine mw_np (r := (rq_many p S).2.2) (by unfold mNp; omega) h hS hk K (fun R hR => ?_)
  refine s257 ⟨⟨by omega, by omega⟩, fun h => by omega, fun h => by omega, fun h => by omega, fun h => by omega, fun h => by omega, fun h => by omega, fun h => by omega, fun h => by omega, fun _ => ?_, fun h => by omega, fun h => by omega, fun h => by omega, fun h => by omega, fun h => by omega, fun h => by omega, fun h => by omega, fun h => by omega, fun h => by omega, fun h => by omega, fun h => by omega, fun h => by omega, fun h => by omega, fun h => by omega, fun h => by omega, fun h => by omega, fun h => by omega, fun h => by omega, fun h => by omega, fun h => by omega, fun h => by omega, fun h => by omega, fun h => by omega, fun h => by omega, fun h => by omega, fun h => by omega, fun h => by omega, fun h => by omega, fun h => by omega, fun h => by omega, fun h => by omega, fun h => by omega, fun h => by omega, fun h => by omega, fun h => by omega, fun h => by omega, fun h => by omega⟩
  refine s379 ⟨⟨by omega, by omega⟩, fun h => by omega, fun h => by omega, fun h => by omega, fun _ => ?_, fun h => by omega, fun h => by omega, fun h => by omega, fun h => by omega, fun h => by omega, fun h => by omega, fun h => by omega, fun h => by omega, fun h => by omega, fun h => by omega, fun h => by omega, fun h => by omega, fun h => by omega, fun h => by omega, fun h => by omega, fun h => by omega⟩
  refine sp_countAnswers (d := d + 11) hk.1 hS.1 (lim := 1000000) ⟨by omega, by omega⟩ (fun M' hf => s379_136 ?_)
  have hle := ans_le hk.1
  have e : mnL ((ans S.1).length : Nat) 1000000 = ((ans S.1).length : Nat) := by
    unfold mnL
    rw [if_pos (by omega)]
  rw [e]
  have hS' : mRl M' S := mRl_fr hS hk (fun b j hb => hf b j (by have := mCl_b hb; omega) (by have := mCl_b hb; omega))
  have e5 : M' 133 5 = 0 := by rw [hf 133 5 (by decide) (by decide)]; exact c3
  refine sp_sayNumber (d := d + 15) (m_ok0 e5) (by omega) (by omega) (s379_139 (s257_306 ?_))
  obtain ⟨r1, r2, r3⟩ := mf_app (cs := dgs ((ans S.1).length : Nat)) hS' hk e5 (Nat.le_trans dgs_len (by omega))
  exact hR _ r1 r2 (mEnd_tr (fun b j hb => hf b j (by omega) (by omega)) r3)
theorem mw_prove {n p : Int} (h : mIn M n p) (hS : mRl M S) (hk : hOk k S) (K : ∀ M', mRl M' (fnR n S (rq_prove p S)).2 → mtq M' (fnR n S (rq_prove p S)).1 → mEnd M M' → Q (some (jI (M' 133 5))) M') : wp kc (d + 20) 219 17 [some (jR 133), none] [jI 10] M Q := by
  obtain ⟨c0, c1, c2, c3, c4, c5, c6⟩ := min_b h
  refine mw_np (r := (rq_prove p S).2.2) (by unfold mNp; omega) h hS hk K (fun R hR => ?_)
  refine s257 ⟨⟨by omega, by omega⟩, fun h => by omega, fun h => by omega, fun h => by omega, fun h => by omega, fun h => by omega, fun h => by omega, fun h => by omega, fun h => by omega, fun h => by omega, fun h => by omega, fun _ => ?_, fun h => by omega, fun h => by omega, fun h => by omega, fun h => by omega, fun h => by omega, fun h => by omega, fun h => by omega, fun h => by omega, fun h => by omega, fun h => by omega, fun h => by omega, fun h => by omega, fun h => by omega, fun h => by omega, fun h => by omega, fun h => by omega, fun h => by omega, fun h => by omega, fun h => by omega, fun h => by omega, fun h => by omega, fun h => by omega, fun h => by omega, fun h => by omega, fun h => by omega, fun h => by omega, fun h => by omega, fun h => by omega, fun h => by omega, fun h => by omega, fun h => by omega, fun h => by omega, fun h => by omega, fun h => by omega, fun h => by omega⟩
  refine s379 ⟨⟨by omega, by omega⟩, fun h => by omega, fun h => by omega, fun h => by omega, fun h => by omega, fun h => by omega, fun _ => ?_, fun h => by omega, fun h => by omega, fun h => by omega, fun h => by omega, fun h => by omega, fun h => by omega, fun h => by omega, fun h => by omega, fun h => by omega, fun h => by omega, fun h => by omega, fun h => by omega, fun h => by omega, fun h => by omega⟩
  refine sp_sayProof (d := d + 7) hk.1 hS.1 c3 (fun M' m1 m2 => s379_157 (s257_306 ?_))
  obtain ⟨r1, r2, r3⟩ := mf_frq hS hk m1 m2
  exact hR _ r1 r2 r3
theorem mw_grade {n p : Int} (h : mIn M n p) (hS : mRl M S) (hk : hOk k S) (K : ∀ M', mRl M' (fnR n S (rq_grade p S)).2 → mtq M' (fnR n S (rq_grade p S)).1 → mEnd M M' → Q (some (jI (M' 133 5))) M') : wp kc (d + 20) 219 17 [some (jR 133), none] [jI 12] M Q := by
  obtain ⟨c0, c1, c2, c3, c4, c5, c6⟩ := min_b h
  refine mw_np (r := (rq_grade p S).2.2) (by unfold mNp; omega) h hS hk K (fun R hR => ?_)
  refine s257 ⟨⟨by omega, by omega⟩, fun h => by omega, fun h => by omega, fun h => by omega, fun h => by omega, fun h => by omega, fun h => by omega, fun h => by omega, fun h => by omega, fun h => by omega, fun h => by omega, fun h => by omega, fun h => by omega, fun _ => ?_, fun h => by omega, fun h => by omega, fun h => by omega, fun h => by omega, fun h => by omega, fun h => by omega, fun h => by omega, fun h => by omega, fun h => by omega, fun h => by omega, fun h => by omega, fun h => by omega, fun h => by omega, fun h => by omega, fun h => by omega, fun h => by omega, fun h => by omega, fun h => by omega, fun h => by omega, fun h => by omega, fun h => by omega, fun h => by omega, fun h => by omega, fun h => by omega, fun h => by omega, fun h => by omega, fun h => by omega, fun h => by omega, fun h => by omega, fun h => by omega, fun h => by omega, fun h => by omega, fun h => by omega⟩
  refine s379 ⟨⟨by omega, by omega⟩, fun h => by omega, fun h => by omega, fun h => by omega, fun h => by omega, fun h => by omega, fun h => by omega, fun h => by omega, fun _ => ?_, fun h => by omega, fun h => by omega, fun h => by omega, fun h => by omega, fun h => by omega, fun h => by omega, fun h => by omega, fun h => by omega, fun h => by omega, fun h => by omega, fun h => by omega, fun h => by omega⟩
  refine sp_sayGrade (d := d + 7) hk.1 hS.1 c3 (fun M' m1 m2 => s379_171 (s257_306 ?_))
  obtain ⟨r1, r2, r3⟩ := mf_frq hS hk m1 m2
  exact hR _ r1 r2 r3
theorem mw_teach {n p : Int} (h : mIn M n p) (hS : mRl M S) (hk : hOk k S) (K : ∀ M', mRl M' (fnR n S (rq_teach p S)).2 → mtq M' (fnR n S (rq_teach p S)).1 → mEnd M M' → Q (some (jI (M' 133 5))) M') : wp kc (d + 20) 219 17 [some (jR 133), none] [jI 16] M Q := by
  obtain ⟨c0, c1, c2, c3, c4, c5, c6⟩ := min_b h
  refine mw_np (r := (rq_teach p S).2.2) (by unfold mNp; omega) h hS hk K (fun R hR => ?_)
  refine s257 ⟨⟨by omega, by omega⟩, fun h => by omega, fun h => by omega, fun h => by omega, fun h => by omega, fun h => by omega, fun h => by omega, fun h => by omega, fun h => by omega, fun h => by omega, fun h => by omega, fun h => by omega, fun h => by omega, fun h => by omega, fun h => by omega, fun h => by omega, fun h => by omega, fun _ => ?_, fun h => by omega, fun h => by omega, fun h => by omega, fun h => by omega, fun h => by omega, fun h => by omega, fun h => by omega, fun h => by omega, fun h => by omega, fun h => by omega, fun h => by omega, fun h => by omega, fun h => by omega, fun h => by omega, fun h => by omega, fun h => by omega, fun h => by omega, fun h => by omega, fun h => by omega, fun h => by omega, fun h => by omega, fun h => by omega, fun h => by omega, fun h => by omega, fun h => by omega, fun h => by omega, fun h => by omega, fun h => by omega, fun h => by omega⟩
  refine s379 ⟨⟨by omega, by omega⟩, fun h => by omega, fun h => by omega, fun h => by omega, fun h => by omega, fun h => by omega, fun h => by omega, fun h => by omega, fun h => by omega, fun h => by omega, fun h => by omega, fun h => by omega, fun _ => ?_, fun h => by omega, fun h => by omega, fun h => by omega, fun h => by omega, fun h => by omega, fun h => by omega, fun h => by omega, fun h => by omega⟩
  refine sp_sayLesson (d := d + 6) hk.1 hS.1 c3 (fun M' m1 m2 => s379_178 (s257_306 ?_))
  obtain ⟨r1, r2, r3⟩ := mf_frq hS hk m1 m2
  exact hR _ r1 r2 r3
theorem mw_hint {n p : Int} (h : mIn M n p) (hS : mRl M S) (hk : hOk k S) (K : ∀ M', mRl M' (fnR n S (rq_hint p S)).2 → mtq M' (fnR n S (rq_hint p S)).1 → mEnd M M' → Q (some (jI (M' 133 5))) M') : wp kc (d + 20) 219 17 [some (jR 133), none] [jI 13] M Q := by
  obtain ⟨c0, c1, c2, c3, c4, c5, c6⟩ := min_b h
  refine mw_np (r := (rq_hint p S).2.2) (by unfold mNp; omega) h hS hk K (fun R hR => ?_)
  refine s257 ⟨⟨by omega, by omega⟩, fun h => by omega, fun h => by omega, fun h => by omega, fun h => by omega, fun h => by omega, fun h => by omega, fun h => by omega, fun h => by omega, fun h => by omega, fun h => by omega, fun h => by omega, fun h => by omega, fun h => by omega, fun _ => ?_, fun h => by omega, fun h => by omega, fun h => by omega, fun h => by omega, fun h => by omega, fun h => by omega, fun h => by omega, fun h => by omega, fun h => by omega, fun h => by omega, fun h => by omega, fun h => by omega, fun h => by omega, fun h => by omega, fun h => by omega, fun h => by omega, fun h => by omega, fun h => by omega, fun h => by omega, fun h => by omega, fun h => by omega, fun h => by omega, fun h => by omega, fun h => by omega, fun h => by omega, fun h => by omega, fun h => by omega, fun h => by omega, fun h => by omega, fun h => by omega, fun h => by omega, fun h => by omega⟩
  refine s292 ⟨⟨by omega, by omega⟩, fun _ => ?_, fun h => by omega, fun h => by omega, fun h => by omega, fun h => by omega, fun h => by omega, fun h => by omega, fun h => by omega, fun h => by omega, fun h => by omega, fun h => by omega, fun h => by omega, fun h => by omega, fun h => by omega, fun h => by omega, fun h => by omega, fun h => by omega, fun h => by omega, fun h => by omega, fun h => by omega⟩
  refine sp_sayHint (d := d + 12) hk.1 hS.1 hS.2.1 hk.2.2.1 hk.2.2.2.1 c3 (fun M' m1 m2 => s292_96 (s257_236 ?_))
  obtain ⟨r1, r2, r3⟩ := mf_frq hS hk m1 m2
  exact hR _ r1 r2 r3
theorem mw_step {n p : Int} (h : mIn M n p) (hS : mRl M S) (hk : hOk k S) (K : ∀ M', mRl M' (fnR n S (rq_step p S)).2 → mtq M' (fnR n S (rq_step p S)).1 → mEnd M M' → Q (some (jI (M' 133 5))) M') : wp kc (d + 20) 219 17 [some (jR 133), none] [jI 14] M Q := by
  obtain ⟨c0, c1, c2, c3, c4, c5, c6⟩ := min_b h
  refine mw_np (r := (rq_step p S).2.2) (by unfold mNp; omega) h hS hk K (fun R hR => ?_)
  refine s257 ⟨⟨by omega, by omega⟩, fun h => by omega, fun h => by omega, fun h => by omega, fun h => by omega, fun h => by omega, fun h => by omega, fun h => by omega, fun h => by omega, fun h => by omega, fun h => by omega, fun h => by omega, fun h => by omega, fun h => by omega, fun h => by omega, fun _ => ?_, fun h => by omega, fun h => by omega, fun h => by omega, fun h => by omega, fun h => by omega, fun h => by omega, fun h => by omega, fun h => by omega, fun h => by omega, fun h => by omega, fun h => by omega, fun h => by omega, fun h => by omega, fun h => by omega, fun h => by omega, fun h => by omega, fun h => by omega, fun h => by omega, fun h => by omega, fun h => by omega, fun h => by omega, fun h => by omega, fun h => by omega, fun h => by omega, fun h => by omega, fun h => by omega, fun h => by omega, fun h => by omega, fun h => by omega, fun h => by omega, fun h => by omega⟩
  refine s292 ⟨⟨by omega, by omega⟩, fun h => by omega, fun _ => ?_, fun h => by omega, fun h => by omega, fun h => by omega, fun h => by omega, fun h => by omega, fun h => by omega, fun h => by omega, fun h => by omega, fun h => by omega, fun h => by omega, fun h => by omega, fun h => by omega, fun h => by omega, fun h => by omega, fun h => by omega, fun h => by omega, fun h => by omega, fun h => by omega⟩
  refine sp_sayStep (d := d + 7) hk.1 hS.1 hS.2.1 hk.2.2.1 hk.2.2.2.1 c3 (fun M' m1 m2 => s292_103 (s257_236 ?_))
  obtain ⟨r1, r2, r3⟩ := mf_frq hS hk m1 m2
  exact hR _ r1 r2 r3
theorem mw_solve {n p : Int} (h : mIn M n p) (hS : mRl M S) (hk : hOk k S) (K : ∀ M', mRl M' (fnR n S (rq_solve p S)).2 → mtq M' (fnR n S (rq_solve p S)).1 → mEnd M M' → Q (some (jI (M' 133 5))) M') : wp kc (d + 20) 219 17 [some (jR 133), none] [jI 15] M Q := by
  obtain ⟨c0, c1, c2, c3, c4, c5, c6⟩ := min_b h
  refine mw_np (r := (rq_solve p S).2.2) (by unfold mNp; omega) h hS hk K (fun R hR => ?_)
  refine s257 ⟨⟨by omega, by omega⟩, fun h => by omega, fun h => by omega, fun h => by omega, fun h => by omega, fun h => by omega, fun h => by omega, fun h => by omega, fun h => by omega, fun h => by omega, fun h => by omega, fun h => by omega, fun h => by omega, fun h => by omega, fun h => by omega, fun h => by omega, fun _ => ?_, fun h => by omega, fun h => by omega, fun h => by omega, fun h => by omega, fun h => by omega, fun h => by omega, fun h => by omega, fun h => by omega, fun h => by omega, fun h => by omega, fun h => by omega, fun h => by omega, fun h => by omega, fun h => by omega, fun h => by omega, fun h => by omega, fun h => by omega, fun h => by omega, fun h => by omega, fun h => by omega, fun h => by omega, fun h => by omega, fun h => by omega, fun h => by omega, fun h => by omega, fun h => by omega, fun h => by omega, fun h => by omega, fun h => by omega, fun h => by omega⟩
  refine s292 ⟨⟨by omega, by omega⟩, fun h => by omega, fun h => by omega, fun _ => ?_, fun h => by omega, fun h => by omega, fun h => by omega, fun h => by omega, fun h => by omega, fun h => by omega, fun h => by omega, fun h => by omega, fun h => by omega, fun h => by omega, fun h => by omega, fun h => by omega, fun h => by omega, fun h => by omega, fun h => by omega, fun h => by omega, fun h => by omega⟩
  refine sp_saySolve (d := d + 6) hk.1 hS.1 hS.2.1 hk.2.2.1 hk.2.2.2.1 c3 (fun M' m1 m2 => s292_110 (s257_236 ?_))
  obtain ⟨r1, r2, r3⟩ := mf_frq hS hk m1 m2
  exact hR _ r1 r2 r3
theorem mw_wrong {n p : Int} (h : mIn M n p) (hS : mRl M S) (hk : hOk k S) (K : ∀ M', mRl M' (fnR n S (rq_wrong p S)).2 → mtq M' (fnR n S (rq_wrong p S)).1 → mEnd M M' → Q (some (jI (M' 133 5))) M') : wp kc (d + 20) 219 17 [some (jR 133), none] [jI 32] M Q := by
  obtain ⟨c0, c1, c2, c3, c4, c5, c6⟩ := min_b h
  refine mw_np (r := (rq_wrong p S).2.2) (by unfold mNp; omega) h hS hk K (fun R hR => ?_)
  refine s257 ⟨⟨by omega, by omega⟩, fun h => by omega, fun h => by omega, fun h => by omega, fun h => by omega, fun h => by omega, fun h => by omega, fun h => by omega, fun h => by omega, fun h => by omega, fun h => by omega, fun h => by omega, fun h => by omega, fun h => by omega, fun h => by omega, fun h => by omega, fun h => by omega, fun h => by omega, fun h => by omega, fun h => by omega, fun h => by omega, fun h => by omega, fun h => by omega, fun h => by omega, fun h => by omega, fun h => by omega, fun h => by omega, fun h => by omega, fun h => by omega, fun h => by omega, fun h => by omega, fun h => by omega, fun h => by omega, fun _ => ?_, fun h => by omega, fun h => by omega, fun h => by omega, fun h => by omega, fun h => by omega, fun h => by omega, fun h => by omega, fun h => by omega, fun h => by omega, fun h => by omega, fun h => by omega, fun h => by omega, fun h => by omega⟩
  refine s292 ⟨⟨by omega, by omega⟩, fun h => by omega, fun h => by omega, fun h => by omega, fun h => by omega, fun h => by omega, fun h => by omega, fun h => by omega, fun h => by omega, fun h => by omega, fun h => by omega, fun h => by omega, fun h => by omega, fun h => by omega, fun h => by omega, fun h => by omega, fun h => by omega, fun h => by omega, fun h => by omega, fun h => by omega, fun _ => ?_⟩
  refine sp_sayWrong (d := d + 10) hk.1 hS.1 hS.2.1 hk.2.2.1 hk.2.2.2.1 (m_ok0 c3) (fun M' m1 => s292_194 (s257_236 ?_))
  obtain ⟨r1, r2, r3⟩ := mf_wr hS hk c3 (Nat.le_trans tWrong_len (by omega)) m1
  exact hR _ r1 r2 r3
theorem mw_state {n p : Int} (h : mIn M n p) (hS : mRl M S) (hk : hOk k S) (K : ∀ M', mRl M' (fnR n S (rq_state p S)).2 → mtq M' (fnR n S (rq_state p S)).1 → mEnd M M' → Q (some (jI (M' 133 5))) M') : wp kc (d + 20) 219 17 [some (jR 133), none] [jI 29] M Q := by
  obtain ⟨c0, c1, c2, c3, c4, c5, c6⟩ := min_b h
  refine mw_np (r := (rq_state p S).2.2) (by unfold mNp; omega) h hS hk K (fun R hR => ?_)
  refine s257 ⟨⟨by omega, by omega⟩, fun h => by omega, fun h => by omega, fun h => by omega, fun h => by omega, fun h => by omega, fun h => by omega, fun h => by omega, fun h => by omega, fun h => by omega, fun h => by omega, fun h => by omega, fun h => by omega, fun h => by omega, fun h => by omega, fun h => by omega, fun h => by omega, fun h => by omega, fun h => by omega, fun h => by omega, fun h => by omega, fun h => by omega, fun h => by omega, fun h => by omega, fun h => by omega, fun h => by omega, fun h => by omega, fun h => by omega, fun h => by omega, fun h => by omega, fun _ => ?_, fun h => by omega, fun h => by omega, fun h => by omega, fun h => by omega, fun h => by omega, fun h => by omega, fun h => by omega, fun h => by omega, fun h => by omega, fun h => by omega, fun h => by omega, fun h => by omega, fun h => by omega, fun h => by omega, fun h => by omega, fun h => by omega⟩
  refine s292 ⟨⟨by omega, by omega⟩, fun h => by omega, fun h => by omega, fun h => by omega, fun h => by omega, fun h => by omega, fun h => by omega, fun h => by omega, fun h => by omega, fun h => by omega, fun h => by omega, fun h => by omega, fun h => by omega, fun h => by omega, fun h => by omega, fun h => by omega, fun h => by omega, fun _ => ?_, fun h => by omega, fun h => by omega, fun h => by omega⟩
  refine sp_sayState (d := d + 15) hk.1 hS.1 hS.2.1 hk.2.2.1 (m_ok0 c3) (s292_161 (s257_236 ?_))
  obtain ⟨r1, r2, r3⟩ := mf_app (cs := (List.range (S.1.1 * S.1.2.1).toNat).flatMap (t_st1 S.2.1 S.1)) hS hk c3 (Nat.le_trans (t_stL hk.1) (by omega))
  exact hR _ r1 r2 r3
theorem mw_undo {n p : Int} (h : mIn M n p) (hS : mRl M S) (hk : hOk k S) (K : ∀ M', mRl M' (fnR n S (rq_undo p S)).2 → mtq M' (fnR n S (rq_undo p S)).1 → mEnd M M' → Q (some (jI (M' 133 5))) M') : wp kc (d + 20) 219 17 [some (jR 133), none] [jI 27] M Q := by
  obtain ⟨c0, c1, c2, c3, c4, c5, c6⟩ := min_b h
  refine mw_np (r := (rq_undo p S).2.2) (by unfold mNp; omega) h hS hk K (fun R hR => ?_)
  refine s257 ⟨⟨by omega, by omega⟩, fun h => by omega, fun h => by omega, fun h => by omega, fun h => by omega, fun h => by omega, fun h => by omega, fun h => by omega, fun h => by omega, fun h => by omega, fun h => by omega, fun h => by omega, fun h => by omega, fun h => by omega, fun h => by omega, fun h => by omega, fun h => by omega, fun h => by omega, fun h => by omega, fun h => by omega, fun h => by omega, fun h => by omega, fun h => by omega, fun h => by omega, fun h => by omega, fun h => by omega, fun h => by omega, fun h => by omega, fun _ => ?_, fun h => by omega, fun h => by omega, fun h => by omega, fun h => by omega, fun h => by omega, fun h => by omega, fun h => by omega, fun h => by omega, fun h => by omega, fun h => by omega, fun h => by omega, fun h => by omega, fun h => by omega, fun h => by omega, fun h => by omega, fun h => by omega, fun h => by omega, fun h => by omega⟩
  refine s292 ⟨⟨by omega, by omega⟩, fun h => by omega, fun h => by omega, fun h => by omega, fun h => by omega, fun h => by omega, fun h => by omega, fun h => by omega, fun h => by omega, fun h => by omega, fun h => by omega, fun h => by omega, fun h => by omega, fun h => by omega, fun h => by omega, fun _ => ?_, fun h => by omega, fun h => by omega, fun h => by omega, fun h => by omega, fun h => by omega⟩
  refine sp_sayUndo (d := d + 11) hS.2.1 hk.2.2.1 (m_ok0 c3) (fun e N m1 m2 => s292_143 (s257_236 ?_)) (fun e => s292_143 (s257_236 ?_))
  · have ea : (rq_undo p S).2.2 = (t_ok, (S.1, (v_undo S.2.1).2, S.2.2)) := by
      unfold rq_undo unV unT
      rw [if_pos e, if_pos e]
    rw [ea] at hR
    obtain ⟨r1, r2, r3⟩ := mf_pl (cs := t_ok) hS hk c3 (by decide) m1 (fun b j b1 b2 => m2 b j b1)
    exact hR _ r1 r2 r3
  · have ea : (rq_undo p S).2.2 = (t_no (wrd 14), S) := by
      unfold rq_undo unV unT
      rw [if_neg (by omega), if_neg (by omega)]
    rw [ea] at hR
    obtain ⟨r1, r2, r3⟩ := mf_app (cs := t_no (wrd 14)) hS hk c3 (Nat.le_trans t_no_len (by omega))
    exact hR _ r1 r2 r3
theorem mw_clash {n p : Int} (h : mIn M n p) (hS : mRl M S) (hk : hOk k S) (K : ∀ M', mRl M' (fnR n S (rq_clash p S)).2 → mtq M' (fnR n S (rq_clash p S)).1 → mEnd M M' → Q (some (jI (M' 133 5))) M') : wp kc (d + 20) 219 17 [some (jR 133), none] [jI 17] M Q := by
  obtain ⟨c0, c1, c2, c3, c4, c5, c6⟩ := min_b h
  refine mw_np (r := (rq_clash p S).2.2) (by unfold mNp; omega) h hS hk K (fun R hR => ?_)
  refine s257 ⟨⟨by omega, by omega⟩, fun h => by omega, fun h => by omega, fun h => by omega, fun h => by omega, fun h => by omega, fun h => by omega, fun h => by omega, fun h => by omega, fun h => by omega, fun h => by omega, fun h => by omega, fun h => by omega, fun h => by omega, fun h => by omega, fun h => by omega, fun h => by omega, fun h => by omega, fun _ => ?_, fun h => by omega, fun h => by omega, fun h => by omega, fun h => by omega, fun h => by omega, fun h => by omega, fun h => by omega, fun h => by omega, fun h => by omega, fun h => by omega, fun h => by omega, fun h => by omega, fun h => by omega, fun h => by omega, fun h => by omega, fun h => by omega, fun h => by omega, fun h => by omega, fun h => by omega, fun h => by omega, fun h => by omega, fun h => by omega, fun h => by omega, fun h => by omega, fun h => by omega, fun h => by omega, fun h => by omega, fun h => by omega⟩
  refine s379 ⟨⟨by omega, by omega⟩, fun h => by omega, fun h => by omega, fun h => by omega, fun h => by omega, fun h => by omega, fun h => by omega, fun h => by omega, fun h => by omega, fun h => by omega, fun h => by omega, fun h => by omega, fun h => by omega, fun _ => ?_, fun h => by omega, fun h => by omega, fun h => by omega, fun h => by omega, fun h => by omega, fun h => by omega, fun h => by omega⟩
  refine sp_sayClash (d := d + 10) hk.1 hS.1 (m_ok0 c3) (fun M' m1 => s379_185 (s257_306 ?_))
  obtain ⟨r1, r2, r3⟩ := mf_wr hS hk c3 (Nat.le_trans (tClash_len hk.1) (by omega)) m1
  exact hR _ r1 r2 r3
theorem mw_barred {n p : Int} (h : mIn M n p) (hS : mRl M S) (hk : hOk k S) (K : ∀ M', mRl M' (fnR n S (rq_barred p S)).2 → mtq M' (fnR n S (rq_barred p S)).1 → mEnd M M' → Q (some (jI (M' 133 5))) M') : wp kc (d + 20) 219 17 [some (jR 133), none] [jI 24] M Q := by
  obtain ⟨c0, c1, c2, c3, c4, c5, c6⟩ := min_b h
  refine mw_np (r := (rq_barred p S).2.2) (by unfold mNp; omega) h hS hk K (fun R hR => ?_)
  refine s257 ⟨⟨by omega, by omega⟩, fun h => by omega, fun h => by omega, fun h => by omega, fun h => by omega, fun h => by omega, fun h => by omega, fun h => by omega, fun h => by omega, fun h => by omega, fun h => by omega, fun h => by omega, fun h => by omega, fun h => by omega, fun h => by omega, fun h => by omega, fun h => by omega, fun h => by omega, fun h => by omega, fun h => by omega, fun h => by omega, fun h => by omega, fun h => by omega, fun h => by omega, fun h => by omega, fun _ => ?_, fun h => by omega, fun h => by omega, fun h => by omega, fun h => by omega, fun h => by omega, fun h => by omega, fun h => by omega, fun h => by omega, fun h => by omega, fun h => by omega, fun h => by omega, fun h => by omega, fun h => by omega, fun h => by omega, fun h => by omega, fun h => by omega, fun h => by omega, fun h => by omega, fun h => by omega, fun h => by omega, fun h => by omega⟩
  refine s379 ⟨⟨by omega, by omega⟩, fun h => by omega, fun h => by omega, fun h => by omega, fun h => by omega, fun h => by omega, fun h => by omega, fun h => by omega, fun h => by omega, fun h => by omega, fun h => by omega, fun h => by omega, fun h => by omega, fun h => by omega, fun h => by omega, fun h => by omega, fun h => by omega, fun h => by omega, fun h => by omega, fun h => by omega, fun _ => ?_⟩
  refine sp_sayBarred (d := d + 12) hk.1 hS.1 (m_ok0 c3) (fun M' m1 => s379_210 (s257_306 ?_))
  obtain ⟨r1, r2, r3⟩ := mf_wr hS hk c3 (Nat.le_trans (tBar_len hk.1) (by omega)) m1
  exact hR _ r1 r2 r3
theorem mw_form {n p : Int} (h : mIn M n p) (hS : mRl M S) (hk : hOk k S) (K : ∀ M', mRl M' (fnR n S (rq_form p S)).2 → mtq M' (fnR n S (rq_form p S)).1 → mEnd M M' → Q (some (jI (M' 133 5))) M') : wp kc (d + 20) 219 17 [some (jR 133), none] [jI 20] M Q := by
  obtain ⟨c0, c1, c2, c3, c4, c5, c6⟩ := min_b h
  refine mw_np (r := (rq_form p S).2.2) (by unfold mNp; omega) h hS hk K (fun R hR => ?_)
  refine s257 ⟨⟨by omega, by omega⟩, fun h => by omega, fun h => by omega, fun h => by omega, fun h => by omega, fun h => by omega, fun h => by omega, fun h => by omega, fun h => by omega, fun h => by omega, fun h => by omega, fun h => by omega, fun h => by omega, fun h => by omega, fun h => by omega, fun h => by omega, fun h => by omega, fun h => by omega, fun h => by omega, fun h => by omega, fun h => by omega, fun _ => ?_, fun h => by omega, fun h => by omega, fun h => by omega, fun h => by omega, fun h => by omega, fun h => by omega, fun h => by omega, fun h => by omega, fun h => by omega, fun h => by omega, fun h => by omega, fun h => by omega, fun h => by omega, fun h => by omega, fun h => by omega, fun h => by omega, fun h => by omega, fun h => by omega, fun h => by omega, fun h => by omega, fun h => by omega, fun h => by omega, fun h => by omega, fun h => by omega, fun h => by omega⟩
  refine s379 ⟨⟨by omega, by omega⟩, fun h => by omega, fun h => by omega, fun h => by omega, fun h => by omega, fun h => by omega, fun h => by omega, fun h => by omega, fun h => by omega, fun h => by omega, fun h => by omega, fun h => by omega, fun h => by omega, fun h => by omega, fun h => by omega, fun h => by omega, fun _ => ?_, fun h => by omega, fun h => by omega, fun h => by omega, fun h => by omega⟩
  refine sp_sayForm (d := d + 9) hS.1 hk.1 hk.2.1 (by omega) (by omega) (fun M' Y y1 y2 => s379_192 (s257_306 ?_))
  have hS' : mRl M' S := mRl_fr hS hk (fun b j hb => y2 b j (by have := mCl_b hb; omega) (mCl_u hb (by omega)) (mCl_u hb (by omega)) (by have := mCl_b hb; omega) (by have := mCl_b hb; omega) (by have := mCl_b hb; omega))
  have hE : ∀ b j, b < 133 ∨ b = 134 ∨ (b = 133 ∧ (j = 0 ∨ j = 1 ∨ j = 5)) → M' b j = M b j := fun b j hb => y2 b j (by omega) (fun x => by have := uc_b x; omega) (fun x => by have := uc_b x; omega) (by omega) (by omega) (by omega)
  have e5 : M' 133 5 = 0 := (hE 133 5 (by omega)).trans c3
  have tb := tText_b (isMin_ok hk.1 hk.2.1 y1).1
  have ea : (rq_form p S).2.2 = (tText Y, S) := by
    unfold rq_form
    rw [fmT_e hk.1 hk.2.1 y1]
  rw [ea] at hR
  obtain ⟨r1, r2, r3⟩ := mf_app (cs := tText Y) hS' hk e5 (by omega)
  exact hR _ r1 r2 (mEnd_tr (fun b j hb => hE b j (by omega)) r3)
theorem mw_least {n p : Int} (h : mIn M n p) (hS : mRl M S) (hk : hOk k S) (K : ∀ M', mRl M' (fnR n S (rq_least p S)).2 → mtq M' (fnR n S (rq_least p S)).1 → mEnd M M' → Q (some (jI (M' 133 5))) M') : wp kc (d + 20) 219 17 [some (jR 133), none] [jI 18] M Q := by
  obtain ⟨c0, c1, c2, c3, c4, c5, c6⟩ := min_b h
  refine mw_np (r := (rq_least p S).2.2) (by unfold mNp; omega) h hS hk K (fun R hR => ?_)
  refine s257 ⟨⟨by omega, by omega⟩, fun h => by omega, fun h => by omega, fun h => by omega, fun h => by omega, fun h => by omega, fun h => by omega, fun h => by omega, fun h => by omega, fun h => by omega, fun h => by omega, fun h => by omega, fun h => by omega, fun h => by omega, fun h => by omega, fun h => by omega, fun h => by omega, fun h => by omega, fun h => by omega, fun _ => ?_, fun h => by omega, fun h => by omega, fun h => by omega, fun h => by omega, fun h => by omega, fun h => by omega, fun h => by omega, fun h => by omega, fun h => by omega, fun h => by omega, fun h => by omega, fun h => by omega, fun h => by omega, fun h => by omega, fun h => by omega, fun h => by omega, fun h => by omega, fun h => by omega, fun h => by omega, fun h => by omega, fun h => by omega, fun h => by omega, fun h => by omega, fun h => by omega, fun h => by omega, fun h => by omega, fun h => by omega⟩
  refine s266 ⟨⟨by omega, by omega⟩, fun h => absurd rfl h, fun _ => ?_⟩
  have et : (rq_least p S).2.2 = ((if (ans S.1).length = 1 then tLeast S.1 else tNot1), (if (ans S.1).length = 1 then (zLe S.1, pv_new S.2.1, S.2.2) else S)) := rfl
  rw [et] at hR
  refine sp_sayLeast (d := d + 10) hk.1 hS.1 hS.2.1 (m_ok0 c3) (fun e M' m1 => s266_10 (s257_228 ?_)) (fun e M' m1 m2 m3 => s266_10 (s257_228 ?_))
  · rw [if_neg e, if_neg e] at hR
    obtain ⟨r1, r2, r3⟩ := mf_wr hS hk c3 (Nat.le_trans tNot1_len (by omega)) m1
    exact hR _ r1 r2 r3
  · rw [if_pos e, if_pos e] at hR
    obtain ⟨r1, r2, r3⟩ := mf_z (cs := tLeast S.1) hS hk m2 m3 (mtq_out c3 (Nat.le_trans wd_len (by omega)) (m1 133 5 msc_5 (by omega) (by omega)) (fun j => m1 136 j msc_136 (by omega) (by omega))) (fun b j hb => by
      have hb2 := mC2_b hb
      rw [m1 b j (mC2_s hb) (mC2_g hb) (by omega), m_app_ne (by omega) (by omega)])
    exact hR _ r1 r2 r3
theorem mw_contest {n p : Int} (h : mIn M n p) (hS : mRl M S) (hk : hOk k S) (K : ∀ M', mRl M' (fnR n S (rq_contest p S)).2 → mtq M' (fnR n S (rq_contest p S)).1 → mEnd M M' → Q (some (jI (M' 133 5))) M') : wp kc (d + 20) 219 17 [some (jR 133), none] [jI 33] M Q := by
  obtain ⟨c0, c1, c2, c3, c4, c5, c6⟩ := min_b h
  refine mw_np (r := (rq_contest p S).2.2) (by unfold mNp; omega) h hS hk K (fun R hR => ?_)
  refine s257 ⟨⟨by omega, by omega⟩, fun h => by omega, fun h => by omega, fun h => by omega, fun h => by omega, fun h => by omega, fun h => by omega, fun h => by omega, fun h => by omega, fun h => by omega, fun h => by omega, fun h => by omega, fun h => by omega, fun h => by omega, fun h => by omega, fun h => by omega, fun h => by omega, fun h => by omega, fun h => by omega, fun h => by omega, fun h => by omega, fun h => by omega, fun h => by omega, fun h => by omega, fun h => by omega, fun h => by omega, fun h => by omega, fun h => by omega, fun h => by omega, fun h => by omega, fun h => by omega, fun h => by omega, fun h => by omega, fun h => by omega, fun _ => ?_, fun h => by omega, fun h => by omega, fun h => by omega, fun h => by omega, fun h => by omega, fun h => by omega, fun h => by omega, fun h => by omega, fun h => by omega, fun h => by omega, fun h => by omega, fun h => by omega⟩
  have hO : m_ok (fx_up M 133 89 0) := m_ok0 (by rw [fx_up_nk (by decide)]; exact c3)
  refine s348 (sp_sayOk (d := d + 13) hO (s348_9 (s257_250 ?_)))
  have f : ∀ b j, ¬ (b = 133 ∧ j = 5) → b ≠ 136 → ¬ (b = 133 ∧ j = 89) → (m_app (fx_up M 133 89 0) t_ok) b j = M b j := fun b j b1 b2 b3 => by rw [m_app_ne b1 b2, fx_up_ne b3]
  obtain ⟨h1, h2, h3, h4, h5, h6⟩ := hS
  refine hR _ ⟨mz_uc h1 hk.1 (fun b j hb => by have := uc_b hb; exact f b j (by omega) (by omega) (by omega)), mpv_fr h2 (f 133 80 (by omega) (by omega) (by omega)) (fun b j b1 b2 => f b j (by omega) (by omega) (by omega)), ⟨?_, fun i t hi => (by cases hi)⟩, (f 133 96 (by omega) (by omega) (by omega)).trans h4, mbk_fr h5 (fun j => f 188 j (by omega) (by omega) (by omega)), mlg_fr h6 (fun b j hb => f b j (by omega) (by omega) (by omega))⟩ (mtq_app0 (by rw [fx_up_nk (by decide)]; exact c3) (by decide)) (fun b j hb => f b j (by omega) (by omega) (by omega))
  rw [m_app_ne (by omega) (by omega), fx_up_self]
  rfl
theorem mw_table {n p : Int} (h : mIn M n p) (hS : mRl M S) (hk : hOk k S) (K : ∀ M', mRl M' (fnR n S (rq_table p S)).2 → mtq M' (fnR n S (rq_table p S)).1 → mEnd M M' → Q (some (jI (M' 133 5))) M') : wp kc (d + 20) 219 17 [some (jR 133), none] [jI 36] M Q := by
  obtain ⟨c0, c1, c2, c3, c4, c5, c6⟩ := min_b h
  refine mw_np (r := (rq_table p S).2.2) (by unfold mNp; omega) h hS hk K (fun R hR => ?_)
  refine s257 ⟨⟨by omega, by omega⟩, fun h => by omega, fun h => by omega, fun h => by omega, fun h => by omega, fun h => by omega, fun h => by omega, fun h => by omega, fun h => by omega, fun h => by omega, fun h => by omega, fun h => by omega, fun h => by omega, fun h => by omega, fun h => by omega, fun h => by omega, fun h => by omega, fun h => by omega, fun h => by omega, fun h => by omega, fun h => by omega, fun h => by omega, fun h => by omega, fun h => by omega, fun h => by omega, fun h => by omega, fun h => by omega, fun h => by omega, fun h => by omega, fun h => by omega, fun h => by omega, fun h => by omega, fun h => by omega, fun h => by omega, fun h => by omega, fun h => by omega, fun h => by omega, fun _ => ?_, fun h => by omega, fun h => by omega, fun h => by omega, fun h => by omega, fun h => by omega, fun h => by omega, fun h => by omega, fun h => by omega, fun h => by omega⟩
  refine sp_sayTable (d := d + 14) hS.2.2.1 hk.2.2.2.2.1 (m_ok0 c3) (s257_272 ?_)
  obtain ⟨r1, r2, r3⟩ := mf_app (cs := tTab S.2.2.1) hS hk c3 (Nat.le_trans tTab_len (by omega))
  exact hR _ r1 r2 r3
theorem mw_drop {n p : Int} (h : mIn M n p) (hS : mRl M S) (hk : hOk k S) (K : ∀ M', mRl M' (fnR n S (rq_drop p S)).2 → mtq M' (fnR n S (rq_drop p S)).1 → mEnd M M' → Q (some (jI (M' 133 5))) M') : wp kc (d + 20) 219 17 [some (jR 133), none] [jI 4] M Q := by
  obtain ⟨c0, c1, c2, c3, c4, c5, c6⟩ := min_b h
  refine mw_np (r := (rq_drop p S).2.2) (by unfold mNp; omega) h hS hk K (fun R hR => ?_)
  refine s257 ⟨⟨by omega, by omega⟩, fun h => by omega, fun h => by omega, fun h => by omega, fun h => by omega, fun _ => ?_, fun h => by omega, fun h => by omega, fun h => by omega, fun h => by omega, fun h => by omega, fun h => by omega, fun h => by omega, fun h => by omega, fun h => by omega, fun h => by omega, fun h => by omega, fun h => by omega, fun h => by omega, fun h => by omega, fun h => by omega, fun h => by omega, fun h => by omega, fun h => by omega, fun h => by omega, fun h => by omega, fun h => by omega, fun h => by omega, fun h => by omega, fun h => by omega, fun h => by omega, fun h => by omega, fun h => by omega, fun h => by omega, fun h => by omega, fun h => by omega, fun h => by omega, fun h => by omega, fun h => by omega, fun h => by omega, fun h => by omega, fun h => by omega, fun h => by omega, fun h => by omega, fun h => by omega, fun h => by omega, fun h => by omega⟩
  have h4 : M 149 0 = (S.1.2.2.2.1.length : Int) := hS.1.2.2.2.1
  have h12 := hk.1.2.2.2.2.2.2.1
  have et : (rq_drop p S).2.2 = ((if S.1.2.2.2.1 = [] then t_norule else t_ok), (if S.1.2.2.2.1 = [] then S else (z_drop S.1, pv_new S.2.1, S.2.2))) := rfl
  rw [et] at hR
  refine s262 ⟨⟨by omega, by omega⟩, fun hne => ?_, fun h0 => ?_⟩
  · have hn : S.1.2.2.2.1 ≠ [] := fun e => hne (by rw [h4, e]; rfl)
    rw [if_neg hn, if_neg hn] at hR
    have hv : mpv (fx_up M 149 0 (M 149 0 - 1)) S.2.1 := mpv_fr hS.2.1 (fx_up_na (by decide)) (fun b j b1 b2 => fx_up_na (by omega))
    refine sp_playAnew (d := d + 16) hv (fun N n1 n2 => s262_32 ?_)
    have f : ∀ b j, ¬ (174 ≤ b ∧ b ≤ 177) → ¬ (b = 149 ∧ j = 0) → N b j = M b j := fun b j b1 b2 => by rw [n2 b j b1, fx_up_ne b2]
    have e5 : N 133 5 = 0 := (f 133 5 (by omega) (by omega)).trans c3
    refine sp_sayOk (d := d + 13) (m_ok0 e5) (s262_36 (s257_208 ?_))
    have hmz : mz (m_app N t_ok) 0 (z_drop S.1) := by
      obtain ⟨z1, z2, z3, z4, z5, z6⟩ := hS.1
      have g : ∀ b j, 146 ≤ b ∧ b ≤ 154 → b ≠ 149 → (m_app N t_ok) b j = M b j := fun b j b1 b2 => by rw [m_app_ne (by omega) (by omega), f b j (by omega) (by omega)]
      refine ⟨by rw [g 146 0 (by omega) (by omega)]; exact z1, by rw [g 147 0 (by omega) (by omega)]; exact z2, by rw [g 148 0 (by omega) (by omega)]; exact z3, ?_, fun r R hr => ?_, fun c hc => by rw [g 154 _ (by omega) (by omega)]; exact z6 c hc⟩
      · rw [m_app_ne (by omega) (by omega), n2 149 0 (by omega), fx_up_self, h4]
        show (S.1.2.2.2.1.length : Int) - 1 = ((S.1.2.2.2.1.dropLast).length : Nat)
        rw [List.length_dropLast]
        have := List.length_pos_iff.mpr hn
        omega
      · have hr' : S.1.2.2.2.1[r]? = some R := by
          have hr2 : (S.1.2.2.2.1.dropLast)[r]? = some R := hr
          have hl := (List.getElem?_eq_some_iff.mp hr2).1
          rw [List.length_dropLast] at hl
          rw [List.getElem?_dropLast, if_pos hl] at hr2
          exact hr2
        obtain ⟨y1, y2, y3, y4⟩ := z5 r R hr'
        exact ⟨by rw [g 150 _ (by omega) (by omega)]; exact y1, by rw [g 151 _ (by omega) (by omega)]; exact y2, by rw [g 152 _ (by omega) (by omega)]; exact y3, fun i c hc => by rw [g 153 _ (by omega) (by omega)]; exact y4 i c hc⟩
    obtain ⟨r1, r2, r3⟩ := mf_z (cs := t_ok) hS hk hmz (mpv_fr n1 (m_app_ne (by omega) (by omega)) (fun b j b1 b2 => m_app_ne (by omega) (by omega))) (mtq_app0 e5 (by decide)) (fun b j hb => by
      have hb2 := mC2_b hb
      have hb3 := mC2_u hb (u := 0) (by omega)
      unfold ucell at hb3
      rw [m_app_ne (by omega) (by omega), f b j (by omega) (by omega)])
    exact hR _ r1 r2 r3
  · have hn : S.1.2.2.2.1 = [] := List.length_eq_zero_iff.mp (by omega)
    rw [if_pos hn, if_pos hn] at hR
    refine sp_word (d := d + 16) (by omega) (by omega) (s262_14 (sp_sayNo (d := d + 13) (wrd_ok (by omega) (by omega)) (m_ok0 c3) (s262_17 (s257_208 ?_))))
    have e : t_no (wrd 1) = t_norule := by decide +kernel
    rw [e]
    obtain ⟨r1, r2, r3⟩ := mf_app (cs := t_norule) hS hk c3 (by decide)
    exact hR _ r1 r2 r3
end MRB
