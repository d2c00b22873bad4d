/-! REQUESTS, the reference: any text. -/
section MRH
variable {kc : List va_E} {d : Nat} {M : fx_M} {Q : Option fx_V → fx_M → Prop} {S : HS} {k : Nat}
theorem mw_all0 {n p v : Int} (hv : 0 ≤ v ∧ v < 15) (hp4 : v = 6 → p = 4) (h : mIn M n p) (hS : mRl M S) (hk : hOk k S) (K : ∀ M', mRl M' (fnR n S (rqA (M 135) n S v p)).2 → mtq M' (fnR n S (rqA (M 135) n S v p)).1 → mEnd M M' → Q (some (jI (M' 133 5))) M') : wp kc (d + 20) 219 17 [some (jR 133), none] [jI (piW.getD v.toNat 0)] M Q := by
  have hc : v = 0 ∨ v = 1 ∨ v = 2 ∨ v = 3 ∨ v = 4 ∨ v = 5 ∨ v = 6 ∨ v = 7 ∨ v = 8 ∨ v = 9 ∨ v = 10 ∨ v = 11 ∨ v = 12 ∨ v = 13 ∨ v = 14 := by omega
  rcases hc with e | e | e | e | e | e | e | e | e | e | e | e | e | e | e
  · have ek : piW.getD v.toNat 0 = 0 := by
      rw [e]
      rfl
    rw [ek]
    rw [e] at K
    exact mw_new h hS hk K
  · have ek : piW.getD v.toNat 0 = 1 := by
      rw [e]
      rfl
    rw [ek]
    rw [e] at K
    exact mw_rule h hS hk K
  · have ek : piW.getD v.toNat 0 = 2 := by
      rw [e]
      rfl
    rw [ek]
    rw [e] at K
    exact mw_each h hS hk K
  · have ek : piW.getD v.toNat 0 = 3 := by
      rw [e]
      rfl
    rw [ek]
    rw [e] at K
    exact mw_give h hS hk K
  · have ek : piW.getD v.toNat 0 = 4 := by
      rw [e]
      rfl
    rw [ek]
    rw [e] at K
    exact mw_drop h hS hk K
  · have ek : piW.getD v.toNat 0 = 5 := by
      rw [e]
      rfl
    rw [ek]
    rw [e] at K
    exact mw_text h hS hk K
  · have ek : piW.getD v.toNat 0 = 6 := by
      rw [e]
      rfl
    rw [ek]
    rw [e] at K
    exact mw_load (hp4 e) h hS hk K
  · have ek : piW.getD v.toNat 0 = 7 := by
      rw [e]
      rfl
    rw [ek]
    rw [e] at K
    exact mw_ans h hS hk K
  · have ek : piW.getD v.toNat 0 = 8 := by
      rw [e]
      rfl
    rw [ek]
    rw [e] at K
    exact mw_many h hS hk K
  · have ek : piW.getD v.toNat 0 = 9 := by
      rw [e]
      rfl
    rw [ek]
    rw [e] at K
    exact mw_pick h hS hk K
  · have ek : piW.getD v.toNat 0 = 17 := by
      rw [e]
      rfl
    rw [ek]
    rw [e] at K
    exact mw_clash h hS hk K
  · have ek : piW.getD v.toNat 0 = 18 := by
      rw [e]
      rfl
    rw [ek]
    rw [e] at K
    exact mw_least h hS hk K
  · have ek : piW.getD v.toNat 0 = 19 := by
      rw [e]
      rfl
    rw [ek]
    rw [e] at K
    exact mw_make h hS hk K
  · have ek : piW.getD v.toNat 0 = 32 := by
      rw [e]
      rfl
    rw [ek]
    rw [e] at K
    exact mw_wrong h hS hk K
  · have ek : piW.getD v.toNat 0 = 10 := by
      rw [e]
      rfl
    rw [ek]
    rw [e] at K
    exact mw_prove h hS hk K
theorem mw_all1 {n p v : Int} (hv : 15 ≤ v ∧ v < 30) (h : mIn M n p) (hS : mRl M S) (hk : hOk k S) (K : ∀ M', mRl M' (fnR n S (rqA (M 135) n S v p)).2 → mtq M' (fnR n S (rqA (M 135) n S v p)).1 → mEnd M M' → Q (some (jI (M' 133 5))) M') : wp kc (d + 20) 219 17 [some (jR 133), none] [jI (piW.getD v.toNat 0)] M Q := by
  have hc : v = 15 ∨ v = 16 ∨ v = 17 ∨ v = 18 ∨ v = 19 ∨ v = 20 ∨ v = 21 ∨ v = 22 ∨ v = 23 ∨ v = 24 ∨ v = 25 ∨ v = 26 ∨ v = 27 ∨ v = 28 ∨ v = 29 := by omega
  rcases hc with e | e | e | e | e | e | e | e | e | e | e | e | e | e | e
  · have ek : piW.getD v.toNat 0 = 11 := by
      rw [e]
      rfl
    rw [ek]
    rw [e] at K
    exact mw_check h hS hk K
  · have ek : piW.getD v.toNat 0 = 12 := by
      rw [e]
      rfl
    rw [ek]
    rw [e] at K
    exact mw_grade h hS hk K
  · have ek : piW.getD v.toNat 0 = 13 := by
      rw [e]
      rfl
    rw [ek]
    rw [e] at K
    exact mw_hint h hS hk K
  · have ek : piW.getD v.toNat 0 = 14 := by
      rw [e]
      rfl
    rw [ek]
    rw [e] at K
    exact mw_step h hS hk K
  · have ek : piW.getD v.toNat 0 = 15 := by
      rw [e]
      rfl
    rw [ek]
    rw [e] at K
    exact mw_solve h hS hk K
  · have ek : piW.getD v.toNat 0 = 16 := by
      rw [e]
      rfl
    rw [ek]
    rw [e] at K
    exact mw_teach h hS hk K
  · have ek : piW.getD v.toNat 0 = 20 := by
      rw [e]
      rfl
    rw [ek]
    rw [e] at K
    exact mw_form h hS hk K
  · have ek : piW.getD v.toNat 0 = 21 := by
      rw [e]
      rfl
    rw [ek]
    rw [e] at K
    exact mw_vary h hS hk K
  · have ek : piW.getD v.toNat 0 = 23 := by
      rw [e]
      rfl
    rw [ek]
    rw [e] at K
    exact mw_cover h hS hk K
  · have ek : piW.getD v.toNat 0 = 24 := by
      rw [e]
      rfl
    rw [ek]
    rw [e] at K
    exact mw_barred h hS hk K
  · have ek : piW.getD v.toNat 0 = 25 := by
      rw [e]
      rfl
    rw [ek]
    rw [e] at K
    exact mw_person h hS hk K
  · have ek : piW.getD v.toNat 0 = 26 := by
      rw [e]
      rfl
    rw [ek]
    rw [e] at K
    exact mw_put h hS hk K
  · have ek : piW.getD v.toNat 0 = 27 := by
      rw [e]
      rfl
    rw [ek]
    rw [e] at K
    exact mw_undo h hS hk K
  · have ek : piW.getD v.toNat 0 = 28 := by
      rw [e]
      rfl
    rw [ek]
    rw [e] at K
    exact mw_redo h hS hk K
  · have ek : piW.getD v.toNat 0 = 29 := by
      rw [e]
      rfl
    rw [ek]
    rw [e] at K
    exact mw_state h hS hk K
theorem mw_all2 {n p v : Int} (hv : 30 ≤ v ∧ v < 45) (hp6 : v = 43 → p = 6 ∧ n ≤ 3500) (h : mIn M n p) (hS : mRl M S) (hk : hOk k S) (K : ∀ M', mRl M' (fnR n S (rqA (M 135) n S v p)).2 → mtq M' (fnR n S (rqA (M 135) n S v p)).1 → mEnd M M' → Q (some (jI (M' 133 5))) M') : wp kc (d + 20) 219 17 [some (jR 133), none] [jI (piW.getD v.toNat 0)] M Q := by
  have hc : v = 30 ∨ v = 31 ∨ v = 32 ∨ v = 33 ∨ v = 34 ∨ v = 35 ∨ v = 36 ∨ v = 37 ∨ v = 38 ∨ v = 39 ∨ v = 40 ∨ v = 41 ∨ v = 42 ∨ v = 43 ∨ v = 44 := by omega
  rcases hc with e | e | e | e | e | e | e | e | e | e | e | e | e | e | e
  · have ek : piW.getD v.toNat 0 = 30 := by
      rw [e]
      rfl
    rw [ek]
    rw [e] at K
    exact mw_mark h hS hk K
  · have ek : piW.getD v.toNat 0 = 31 := by
      rw [e]
      rfl
    rw [ek]
    rw [e] at K
    exact mw_marks h hS hk K
  · have ek : piW.getD v.toNat 0 = 33 := by
      rw [e]
      rfl
    rw [ek]
    rw [e] at K
    exact mw_contest h hS hk K
  · have ek : piW.getD v.toNat 0 = 34 := by
      rw [e]
      rfl
    rw [ek]
    rw [e] at K
    exact mw_set h hS hk K
  · have ek : piW.getD v.toNat 0 = 35 := by
      rw [e]
      rfl
    rw [ek]
    rw [e] at K
    exact mw_submit h hS hk K
  · have ek : piW.getD v.toNat 0 = 36 := by
      rw [e]
      rfl
    rw [ek]
    rw [e] at K
    exact mw_table h hS hk K
  · have ek : piW.getD v.toNat 0 = 37 := by
      rw [e]
      rfl
    rw [ek]
    rw [e] at K
    exact mw_keep h hS hk K
  · have ek : piW.getD v.toNat 0 = 38 := by
      rw [e]
      rfl
    rw [ek]
    rw [e] at K
    exact mw_open h hS hk K
  · have ek : piW.getD v.toNat 0 = 39 := by
      rw [e]
      rfl
    rw [ek]
    rw [e] at K
    exact mw_remove h hS hk K
  · have ek : piW.getD v.toNat 0 = 40 := by
      rw [e]
      rfl
    rw [ek]
    rw [e] at K
    exact mw_list h hS hk K
  · have ek : piW.getD v.toNat 0 = 41 := by
      rw [e]
      rfl
    rw [ek]
    rw [e] at K
    exact mw_cut h hS hk K
  · have ek : piW.getD v.toNat 0 = 42 := by
      rw [e]
      rfl
    rw [ek]
    rw [e] at K
    exact mw_mend h hS hk K
  · have ek : piW.getD v.toNat 0 = 43 := by
      rw [e]
      rfl
    rw [ek]
    rw [e] at K
    exact mw_export h hS hk K
  · have ek : piW.getD v.toNat 0 = 44 := by
      rw [e]
      rfl
    rw [ek]
    rw [e] at K
    exact mw_import (hp6 e).1 (hp6 e).2 h hS hk K
  · have ek : piW.getD v.toNat 0 = 22 := by
      rw [e]
      rfl
    rw [ek]
    rw [e] at K
    exact mw_find h hS hk K
theorem m_resp {n : Int} (hn : 0 ≤ n ∧ n ≤ 6100) (hr : ∀ j : Int, 0 ≤ j → j < n → 0 ≤ M 135 j ∧ M 135 j ≤ 65535) (h3 : M 133 3 = n) (hS : mRl M S) (hk : hOk k S) (h35 : (chs (M 135) n 0 bsW).1 = 43 → n ≤ 3500) (K : ∀ M', mRl M' (rqF (M 135) n S).2 → mtq M' (rqF (M 135) n S).1 → mEnd M M' → Q (some (jI (M' 133 5))) M') : wc kc (d + 20) 219 [jR 133] M Q := by
  have e3 : (fx_up (fx_up M 133 5 0) 133 7 0) 133 3 = n := by rw [fx_up_nk (by decide), fx_up_nk (by decide), h3]
  have e7 : (fx_up (fx_up M 133 5 0) 133 7 0) 133 7 = 0 := fx_up_self ..
  have eg : (fx_up (fx_up M 133 5 0) 133 7 0) 135 = M 135 := funext (fun j => by rw [fx_up_na (by decide), fx_up_na (by decide)])
  have hm : ms_at (fx_up (fx_up M 133 5 0) 133 7 0) := by
    unfold ms_at
    rw [e3, e7, eg]
    exact ⟨by omega, by omega, by omega, hr⟩
  refine s219 (sp_scanWord (d := d + 15) hm (by omega) (by omega) (by omega) ?_)
  rw [eg, e3, e7]
  have e45 : ((44 : Int) + 1 - 0).toNat = 45 := rfl
  rw [e45]
  have hb := chs_b (g := M 135) (e := n) (p := 0) (bs := bsW) hn.1
  obtain ⟨w1, w2⟩ := swW (g := M 135) (e := n) (p := 0)
  unfold rqF at K
  generalize chs (M 135) n 0 bsW = q at *
  generalize swl (M 135) n 0 45 0 0 (-1) = s at *
  have hN : ∀ x : Int, mRl (fx_up (fx_up (fx_up M 133 5 0) 133 7 0) 133 7 x) S := fun x => mRl_fr hS hk (fun b j hb => by
    have := mCl_b hb
    rw [fx_up_ne (by omega), fx_up_ne (by omega), fx_up_ne (by omega)])
  have hE : ∀ x : Int, mEnd M (fx_up (fx_up (fx_up M 133 5 0) 133 7 0) 133 7 x) := fun x b j hb => by rw [fx_up_ne (by omega), fx_up_ne (by omega), fx_up_ne (by omega)]
  have h5 : ∀ x : Int, (fx_up (fx_up (fx_up M 133 5 0) 133 7 0) 133 7 x) 133 5 = 0 := fun x => by rw [fx_up_nk (by decide), fx_up_nk (by decide), fx_up_self]
  have hg : ∀ x : Int, (fx_up (fx_up (fx_up M 133 5 0) 133 7 0) 133 7 x) 135 = M 135 := fun x => funext (fun j => by rw [fx_up_na (by decide), fx_up_na (by decide), fx_up_na (by decide)])
  have h33 : ∀ x : Int, (fx_up (fx_up (fx_up M 133 5 0) 133 7 0) 133 7 x) 133 3 = n := fun x => by rw [fx_up_nk (by decide), e3]
  rcases w2 with ⟨a1, a2⟩ | ⟨a1, a2, a3, a4, a5, a6⟩
  · rw [if_pos (by omega)] at K
    rw [a2, if_pos (by omega), Int.zero_add, ← w1]
    refine s219_17 ⟨⟨by omega, by omega⟩, fun _ => ?_, fun h => by omega⟩
    exact mw_bad (n := n) (hN _) hk (hE _) (h5 _) (fx_up_self ..) ⟨by omega, by omega⟩ K
  · rw [if_neg (by omega)] at K
    rw [if_neg (by omega), Int.zero_add, ← a6]
    generalize hM : fx_up (fx_up (fx_up M 133 5 0) 133 7 0) 133 7 q.2.1 = N
    have kN : mRl N S := by rw [← hM]; exact hN _
    have kE : mEnd M N := by rw [← hM]; exact hE _
    have k5 : N 133 5 = 0 := by rw [← hM]; exact h5 _
    have kg : N 135 = M 135 := by rw [← hM]; exact hg _
    have k3 : N 133 3 = n := by rw [← hM]; exact h33 _
    have k7 : N 133 7 = q.2.1 := by rw [← hM]; exact fx_up_self ..
    have hin : mIn N n q.2.1 := by
      refine ⟨?_, k3, k7, k5⟩
      unfold ms_at
      rw [k3, k7, kg]
      exact ⟨by omega, by omega, by omega, hr⟩
    rw [a3]
    have K' : ∀ M', mRl M' (fnR n S (rqA (N 135) n S q.1 q.2.1)).2 → mtq M' (fnR n S (rqA (N 135) n S q.1 q.2.1)).1 → mEnd N M' → Q (some (jI (M' 133 5))) M' := fun M' m1 m2 m3 => by
      rw [kg] at m1 m2
      exact K M' m1 m2 (mEnd_tr kE m3)
    by_cases c1 : q.1 < 15
    · refine mw_all0 ⟨by omega, by omega⟩ (fun e => ?_) hin kN hk K'
      have e6 : piW.getD q.1.toNat 0 = 6 := by
        rw [e]
        rfl
      rw [a3, e6] at a6
      rw [a6]
      decide +kernel
    · by_cases c2 : q.1 < 30
      · exact mw_all1 ⟨by omega, by omega⟩ hin kN hk K'
      · refine mw_all2 ⟨by omega, by omega⟩ (fun e => ⟨?_, h35 e⟩) hin kN hk K'
        have e6 : piW.getD q.1.toNat 0 = 44 := by
          rw [e]
          rfl
        rw [a3, e6] at a6
        rw [a6]
        decide +kernel
end MRH
