/-! REQUESTS, the reference: find, list, mend, export. -/
section MRC
variable {kc : List va_E} {d : Nat} {M N : fx_M} {Q : Option fx_V → fx_M → Prop} {S : HS} {k : Nat}
theorem mf_g {cs : List Int} (hS : mRl M S) (hk : hOk k S) (h5 : M 133 5 = 0) (hl : cs.length ≤ 6000) (f : ∀ b j, mCl b j → N b j = m_app M cs b j) (g : ∀ b j, (b < 133 ∨ b = 134 ∨ b = 136 ∨ (b = 133 ∧ (j = 0 ∨ j = 1 ∨ j = 5))) → N b j = m_app M cs b j) : mRl N S ∧ mtq N cs ∧ mEnd M N := ⟨mRl_fr hS hk (fun b j hb => by
    have := mCl_b hb
    rw [f b j hb, m_app_ne (by omega) (by omega)]), mtq_out h5 hl (g 133 5 (by omega)) (fun j => g 136 j (by omega)), fun b j hb => by rw [g b j (by omega), m_app_ne (by omega) (by omega)]⟩
/-- the book is shut -/
theorem m_shut {v : Int} {R : Option fx_V → fx_M → Prop} (hS : mRl N S) (hk : hOk k S) (h5 : N 133 5 = 0) (eo : S.2.2.2.1 = 0) (hR : ∀ M1, mRl M1 S → mtq M1 (wls 1936225652) → mEnd N M1 → R none M1) : wc kc (d + 18) 364 [jR 133, jI v] N R := by
  have hop : N 133 96 = S.2.2.2.1 := hS.2.2.2.1
  refine s364 ⟨⟨by omega, by omega⟩, fun h => by omega, fun _ => s333 (sp_sayWord (d := d + 13) (by unfold w_ok; omega) (m_ok0 h5) (s333_7 (s364_11 ?_)))⟩
  obtain ⟨r1, r2, r3⟩ := mf_app (cs := wls 1936225652) hS hk h5 (Nat.le_trans wls_8 (by omega))
  exact hR _ r1 r2 r3
theorem mw_find {n p : Int} (h : mIn M n p) (hS : mRl M S) (hk : hOk k S) (K : ∀ M', mRl M' (fnR n S (rq_find p S)).2 → mtq M' (fnR n S (rq_find p S)).1 → mEnd M M' → Q (some (jI (M' 133 5))) M') : wp kc (d + 20) 219 17 [some (jR 133), none] [jI 22] M Q := by
  obtain ⟨c0, c1, c2, c3, c4, c5, c6⟩ := min_b h
  refine mw_np (r := (rq_find p S).2.2) (by unfold mNp; omega) h hS hk K (fun R hR => ?_)
  refine s257 ⟨⟨by omega, by omega⟩, fun h => by omega, fun h => by omega, fun h => by omega, fun h => by omega, fun h => by omega, fun h => by omega, fun h => by omega, fun h => by omega, fun h => by omega, fun h => by omega, fun h => by omega, fun h => by omega, fun h => by omega, fun h => by omega, fun h => by omega, fun h => by omega, fun h => by omega, fun h => by omega, fun h => by omega, fun h => by omega, fun h => by omega, fun h => by omega, fun _ => ?_, fun h => by omega, fun h => by omega, fun h => by omega, fun h => by omega, fun h => by omega, fun h => by omega, fun h => by omega, fun h => by omega, fun h => by omega, fun h => by omega, fun h => by omega, fun h => by omega, fun h => by omega, fun h => by omega, fun h => by omega, fun h => by omega, fun h => by omega, fun h => by omega, fun h => by omega, fun h => by omega, fun h => by omega, fun h => by omega, fun h => by omega⟩
  have hop : M 133 96 = S.2.2.2.1 := hS.2.2.2.1
  rcases hk.2.2.2.2.2.1 with eo | eo
  · have ea : (rq_find p S).2.2 = (wls 1936225652, S) := by
      unfold rq_find bkS
      rw [if_pos eo]
    rw [ea] at hR
    refine s332 ⟨⟨by omega, by omega⟩, fun h => by omega, fun _ => s333 (sp_sayWord (d := d + 13) (by unfold w_ok; omega) (m_ok0 c3) (s333_7 (s332_11 (s257_243 ?_))))⟩
    obtain ⟨r1, r2, r3⟩ := mf_app (cs := wls 1936225652) hS hk c3 (Nat.le_trans wls_8 (by omega))
    exact hR _ r1 r2 r3
  · have ea : (rq_find p S).2.2 = (tFnd S.1 S.2.2.2.2.1 (S.2.2.2.2.1 (bRt S.2.2.2.2.1)).toNat ++ [46], S) := by
      unfold rq_find bkS
      rw [if_neg (by omega)]
    rw [ea] at hR
    refine sp_sayFind (d := d + 9) hS.1 hk.1 hk.2.1 hS.2.2.2.2.1 hk.2.2.2.2.2.2.1 (hk.2.2.2.2.2.2.2.1 eo) (by omega) c3 (fun M' m1 m2 => s257_243 ?_)
    refine hR M' (mRl_fr hS hk (fun b j hb => ?_)) m1 (fun b j hb => m2 b j (by unfold msc; omega) (by omega) (by omega) (by omega) (by omega) (fun x => by have := uc_b x; omega) (fun x => by have := uc_b x; omega) (fun x => by have := uc_b x; omega))
    have hb2 := mCl_b hb
    exact m2 b j (mCl_s hb) (by omega) (by omega) (by omega) (by omega) (mCl_u hb (by omega)) (mCl_u hb (by omega)) (mCl_u hb (by omega))
theorem mw_list {n p : Int} (h : mIn M n p) (hS : mRl M S) (hk : hOk k S) (K : ∀ M', mRl M' (fnR n S (rq_list p S)).2 → mtq M' (fnR n S (rq_list p S)).1 → mEnd M M' → Q (some (jI (M' 133 5))) M') : wp kc (d + 20) 219 17 [some (jR 133), none] [jI 40] M Q := by
  obtain ⟨c0, c1, c2, c3, c4, c5, c6⟩ := min_b h
  refine mw_np (r := (rq_list p S).2.2) (by unfold mNp; omega) h hS hk K (fun R hR => ?_)
  refine s257 ⟨⟨by omega, by omega⟩, fun h => by omega, fun h => by omega, fun h => by omega, fun h => by omega, fun h => by omega, fun h => by omega, fun h => by omega, fun h => by omega, fun h => by omega, fun h => by omega, fun h => by omega, fun h => by omega, fun h => by omega, fun h => by omega, fun h => by omega, fun h => by omega, fun h => by omega, fun h => by omega, fun h => by omega, fun h => by omega, fun h => by omega, fun h => by omega, fun h => by omega, fun h => by omega, fun h => by omega, fun h => by omega, fun h => by omega, fun h => by omega, fun h => by omega, fun h => by omega, fun h => by omega, fun h => by omega, fun h => by omega, fun h => by omega, fun h => by omega, fun h => by omega, fun h => by omega, fun h => by omega, fun h => by omega, fun h => by omega, fun _ => ?_, fun h => by omega, fun h => by omega, fun h => by omega, fun h => by omega, fun h => by omega⟩
  have hop : M 133 96 = S.2.2.2.1 := hS.2.2.2.1
  rcases hk.2.2.2.2.2.1 with eo | eo
  · have ea : (rq_list p S).2.2 = (wls 1936225652, S) := by
      unfold rq_list bkS
      rw [if_pos eo]
    rw [ea] at hR
    exact m_shut hS hk c3 eo (fun M1 m1 m2 m3 => s257_298 (hR M1 m1 m2 m3))
  · have ea : (rq_list p S).2.2 = (tLst S.2.2.2.2.1 (S.2.2.2.2.1 (bRt S.2.2.2.2.1)).toNat ++ [46], S) := by
      unfold rq_list bkS
      rw [if_neg (by omega)]
    rw [ea] at hR
    have hM := hk.2.2.2.2.2.2.2.1 eo
    have hrb := bRt_b (g := S.2.2.2.2.1)
    have h0 := hk.2.2.2.2.2.2.1 (bRt S.2.2.2.2.1) (by omega) (by omega)
    have h15 := hM.2.1
    have hl := tLst_len (bMd_H hM) (S.2.2.2.2.1 (bRt S.2.2.2.2.1)).toNat (by omega)
    refine s364 ⟨⟨by omega, by omega⟩, fun _ => ⟨⟨by omega, by omega⟩, fun h => by omega, fun h => by omega, fun h => by omega, fun h => by omega, fun h => by omega, fun h => by omega, fun _ => ?_, fun h => by omega, fun h => by omega, fun h => by omega, fun h => by omega⟩, fun h => by omega⟩
    refine sp_sayList (d := d + 13) hS.2.2.2.2.1 hk.2.2.2.2.2.2.1 hM.1 (bMd_H hM) (m_ok0 c3) (s364_106 (s257_298 ?_))
    obtain ⟨r1, r2, r3⟩ := mf_app (cs := tLst S.2.2.2.2.1 (S.2.2.2.2.1 (bRt S.2.2.2.2.1)).toNat ++ [46]) hS hk c3 (by rw [List.length_append, List.length_singleton]; omega)
    exact hR _ r1 r2 r3
theorem mw_export {n p : Int} (h : mIn M n p) (hS : mRl M S) (hk : hOk k S) (K : ∀ M', mRl M' (fnR n S (rq_export p S)).2 → mtq M' (fnR n S (rq_export p S)).1 → mEnd M M' → Q (some (jI (M' 133 5))) M') : wp kc (d + 20) 219 17 [some (jR 133), none] [jI 43] M Q := by
  obtain ⟨c0, c1, c2, c3, c4, c5, c6⟩ := min_b h
  refine mw_np (r := (rq_export p S).2.2) (by unfold mNp; omega) h hS hk K (fun R hR => ?_)
  refine s257 ⟨⟨by omega, by omega⟩, fun h => by omega, fun h => by omega, fun h => by omega, fun h => by omega, fun h => by omega, fun h => by omega, fun h => by omega, fun h => by omega, fun h => by omega, fun h => by omega, fun h => by omega, fun h => by omega, fun h => by omega, fun h => by omega, fun h => by omega, fun h => by omega, fun h => by omega, fun h => by omega, fun h => by omega, fun h => by omega, fun h => by omega, fun h => by omega, fun h => by omega, fun h => by omega, fun h => by omega, fun h => by omega, fun h => by omega, fun h => by omega, fun h => by omega, fun h => by omega, fun h => by omega, fun h => by omega, fun h => by omega, fun h => by omega, fun h => by omega, fun h => by omega, fun h => by omega, fun h => by omega, fun h => by omega, fun h => by omega, fun h => by omega, fun h => by omega, fun h => by omega, fun _ => ?_, fun h => by omega, fun h => by omega⟩
  have hop : M 133 96 = S.2.2.2.1 := hS.2.2.2.1
  rcases hk.2.2.2.2.2.1 with eo | eo
  · have ea : (rq_export p S).2.2 = (wls 1936225652, S) := by
      unfold rq_export bkS
      rw [if_pos eo]
    rw [ea] at hR
    exact m_shut hS hk c3 eo (fun M1 m1 m2 m3 => s257_298 (hR M1 m1 m2 m3))
  · have ea : (rq_export p S).2.2 = (tExp S.2.2.2.2.1, S) := by
      unfold rq_export bkS
      rw [if_neg (by omega)]
    rw [ea] at hR
    have hM := hk.2.2.2.2.2.2.2.1 eo
    have hb := hk.2.2.2.2.2.2.1
    have hrb := bRt_b (g := S.2.2.2.2.1)
    have h0 := hb (bRt S.2.2.2.2.1) (by omega) (by omega)
    refine s364 ⟨⟨by omega, by omega⟩, fun _ => ⟨⟨by omega, by omega⟩, fun h => by omega, fun h => by omega, fun h => by omega, fun h => by omega, fun h => by omega, fun h => by omega, fun h => by omega, fun h => by omega, fun h => by omega, fun _ => ?_, fun h => by omega⟩, fun h => by omega⟩
    refine sp_sayExport (d := d + 8) hS.2.2.2.2.1 hb hM (fun i hi => bZ_ok hb (hM.2.2.2 i (by omega) (by omega))) c3 (fun M' m1 => s364_124 (s257_298 ?_))
    obtain ⟨r1, r2, r3⟩ := mf_g (cs := tExp S.2.2.2.2.1) hS hk c3 (Nat.le_trans (tExp_len hb hM) (by omega)) (fun b j hb => by
      have hb2 := mCl_b hb
      exact m1 b j (by omega) (by omega) (by omega) (mCl_u hb (by omega))) (fun b j hb => m1 b j (by omega) (by omega) (by omega) (fun x => by have := uc_b x; omega))
    exact hR _ r1 r2 r3
theorem mw_mend {n p : Int} (h : mIn M n p) (hS : mRl M S) (hk : hOk k S) (K : ∀ M', mRl M' (fnR n S (rq_mend p S)).2 → mtq M' (fnR n S (rq_mend p S)).1 → mEnd M M' → Q (some (jI (M' 133 5))) M') : wp kc (d + 20) 219 17 [some (jR 133), none] [jI 42] M Q := by
  obtain ⟨c0, c1, c2, c3, c4, c5, c6⟩ := min_b h
  refine mw_np (r := (rq_mend p S).2.2) (by unfold mNp; omega) h hS hk K (fun R hR => ?_)
  refine s257 ⟨⟨by omega, by omega⟩, fun h => by omega, fun h => by omega, fun h => by omega, fun h => by omega, fun h => by omega, fun h => by omega, fun h => by omega, fun h => by omega, fun h => by omega, fun h => by omega, fun h => by omega, fun h => by omega, fun h => by omega, fun h => by omega, fun h => by omega, fun h => by omega, fun h => by omega, fun h => by omega, fun h => by omega, fun h => by omega, fun h => by omega, fun h => by omega, fun h => by omega, fun h => by omega, fun h => by omega, fun h => by omega, fun h => by omega, fun h => by omega, fun h => by omega, fun h => by omega, fun h => by omega, fun h => by omega, fun h => by omega, fun h => by omega, fun h => by omega, fun h => by omega, fun h => by omega, fun h => by omega, fun h => by omega, fun h => by omega, fun h => by omega, fun h => by omega, fun _ => ?_, fun h => by omega, fun h => by omega, fun h => by omega⟩
  have et : (rq_mend p S).2.2 = ((if mdB S.2.2.2.2.1 = 1 then t_ok else wls 1953460846), (S.1, S.2.1, S.2.2.1, mdB S.2.2.2.2.1, S.2.2.2.2.1, [])) := rfl
  rw [et] at hR
  refine sp_sayMend (d := d + 7) hS.2.2.2.2.1 hk.2.2.2.2.2.2.1 (m_ok0 c3) (fun M' b m1 m2 m3 m4 => s257_290 ?_)
  have eb := mdB_e m4
  rw [eb] at hR
  have e01 : b = 0 ∨ b = 1 := by
    rcases m4 with ⟨e, -⟩ | ⟨e, -⟩
    · omega
    · omega
  have ec : (if b = 1 then t_ok else wls 1953460846) = tMd b := by
    unfold tMd
    rcases e01 with e | e
    · rw [if_neg (by omega), if_pos e]
    · rw [if_pos e, if_neg (by omega)]
  rw [ec] at hR
  have hl : (tMd b).length ≤ 6000 := by
    unfold tMd
    split
    · exact Nat.le_trans wls_8 (by omega)
    · decide
  obtain ⟨h1, h2, h3, h4, h5, h6⟩ := hS
  have f : ∀ c j, c ≠ 136 → ¬ (c = 133 ∧ (j = 3 ∨ j = 5 ∨ (7 ≤ j ∧ j ≤ 23) ∨ j = 96 ∨ j = 102)) → c ≠ 135 → c ≠ 137 → ¬ ucell 1 c j → M' c j = M c j := fun c j b1 b2 b3 b4 b5 => by rw [m1 c j (by omega) b3 b4 b5, m_app_ne (by omega) b1]
  refine hR M' ⟨mz_uc h1 hk.1 (fun c j hc => ?_), mpv_fr h2 (f 133 80 (by omega) (by omega) (by omega) (by omega) (fun x => by have := uc_b x; omega)) (fun c j b1 b2 => f c j (by omega) (by omega) (by omega) (by omega) (fun x => by have := uc_b x; omega)), mct_uc h3 hk.2.2.2.2.1 (f 133 89 (by omega) (by omega) (by omega) (by omega) (fun x => by have := uc_b x; omega)) (fun c j hc => ?_), m2, mbk_fr h5 (fun j => f 188 j (by omega) (by omega) (by omega) (by omega) (fun x => by have := uc_b x; omega)), ?_⟩ (mtq_out c3 hl (m1 133 5 (by omega) (by omega) (by omega) (fun x => by have := uc_b x; omega)) (fun j => m1 136 j (by omega) (by omega) (by omega) (fun x => by have := uc_b x; omega))) (fun c j hc => f c j (by omega) (by omega) (by omega) (by omega) (fun x => by have := uc_b x; omega))
  · have := uc_b hc
    exact f c j (by omega) (by omega) (by omega) (by omega) (uc_n hc (by omega))
  · rcases hc with ⟨u, u1, u2, hc⟩ | hc
    · have := uc_b hc
      exact f c j (by omega) (by omega) (by omega) (by omega) (uc_n hc (by omega))
    · exact f c j (by omega) (by omega) (by omega) (by omega) (fun x => by have := uc_b x; omega)
  · have g : ∀ j : Int, 99 ≤ j ∧ j ≤ 101 → M' 133 j = M 133 j := fun j hj => f 133 j (by omega) (by omega) (by omega) (by omega) (fun x => by have := uc_b x; omega)
    refine ⟨m3, by rw [g 99 (by omega)]; exact h6.2.1, by rw [g 100 (by omega)]; exact h6.2.2.1, by rw [g 101 (by omega)]; exact h6.2.2.2.1, fun i x hx => (by cases hx)⟩
end MRC
