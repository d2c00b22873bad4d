/-! REQUESTS, the class: answers, pick, make, load. -/
section RQJ
variable {L : Nat} {xs : Nat → Int32} {d : Nat} {M : fx_M} {Q : Option fx_V → fx_M → Prop} {S : HS} {k : Nat}
theorem e3_10 : ((10 ^ 3 : Nat) : Int) = 1000 := rfl
theorem e6_10 : ((10 ^ 6 : Nat) : Int) = 1000000 := rfl
theorem e1_10 : ((10 ^ 1 : Nat) : Int) = 10 := rfl
theorem up9 {N : fx_M} {j : Int} : (fx_up N 3 1 0) 9 j = N 9 j := fx_up_na (by decide)
theorem t_rf3 : ([110, 111, 32, 110, 117, 109, 98, 101, 114] : List Int) = t_rf 3 := by decide +kernel
theorem cw_ans {n p : Int} (h : cIn M n p 0) (hS : cRl M S) (hk : hOk k S) (K : ∀ M', cRl M' (fnR n S (rq_ans (M 2) n p S)).2 → ctx M' (fnR n S (rq_ans (M 2) n p S)).1 → cEnd M M' → Q none M') : wp (kcs L xs) (d + 25) 17 22 [some (jR 0), some (jI n), none] [jI 7] M Q := by
  obtain ⟨c0, c1, c2, c3, c4, c5, c6, c7⟩ := cin_b h
  refine s17_22 (ca_n3 (d := d + 18) (Or.inl rfl) c0 (fun A n0 ng a1 a2 a3 => ?_))
  rw [c1, c2, c3] at a1 a2 a3
  have nb := rBN_b (g := M 2) (e := n) (m := 3) (p := p) (w := 0) (by omega) c6
  have e10 := e3_10
  have hN := cR_aG hS hk.2.2.2.2.1 ng
  refine cw_fin (d := d + 20) (r := rq_ans (M 2) n p S) ⟨by omega, by omega⟩ ⟨by omega, by omega⟩ hN hk (aF_end (aG_F ng)) a1 (show 0 ≤ (rBN (M 2) n 3 p 0).2.1 ∧ (rBN (M 2) n 3 p 0).2.1 ≤ 5606 by omega) a2 (show (rBN (M 2) n 3 p 0).2.2 = 0 ∨ (rBN (M 2) n 3 p 0).2.2 = 1 by omega) K (fun e3 e1 hSN h30 hO R hR => ⟨fun h => by omega, fun _ _ => ?_, fun h => by omega, fun h => by omega, fun h => by omega, fun h => by omega, fun h => by omega, fun h => by omega⟩)
  obtain ⟨a, ha⟩ : ∃ a : Nat, (rBN (M 2) n 3 p 0).1 = (a : Int) := ⟨(rBN (M 2) n 3 p 0).1.toNat, by omega⟩
  rw [ha] at nb a3
  refine s74 (cl_learn (d := d + 20) hSN hk h30 (fun N n1 n2 n3 n4 n5 n6 n7 => s74_7 ⟨⟨by omega, by omega⟩, fun _ => ?_, fun h => by omega, fun h => by omega, fun h => by omega, fun h => by omega, fun h => by omega, fun h => by omega⟩))
  rw [n5, up9, a3]
  have et : (rq_ans (M 2) n p S).2.2 = ((if 100 < (a : Int) then t_rf 3 else tAns S.1 a), S) := by
    unfold rq_ans
    rw [ha]
    rfl
  rw [et] at hR
  refine sp_list (d := d + 7) hk.1 n2 (ca_ok0 n3) (n := a) (by omega) (fun hg => s74_64 ?_) (fun hg M' hm => s74_64 ?_)
  · rw [if_pos (by omega)] at hR
    rw [t_rf3]
    obtain ⟨r1, r2, r3⟩ := fi_wr (cs := t_rf 3) n1 hk.2.2.2.2.1 n3 (Nat.le_trans t_rf_len (by omega)) cwr_o
    exact hR _ r1 r2 (cEnd_tr n4 r3)
  · rw [if_neg (by omega)] at hR
    obtain ⟨r1, r2, r3⟩ := fi_wr n1 hk.2.2.2.2.1 n3 (Nat.le_trans (tAns_len hk.1 hg) (by omega)) hm
    exact hR _ r1 r2 (cEnd_tr n4 r3)
theorem cw_pick {n p : Int} (h : cIn M n p 0) (hS : cRl M S) (hk : hOk k S) (K : ∀ M', cRl M' (fnR n S (rq_pick (M 2) n p S)).2 → ctx M' (fnR n S (rq_pick (M 2) n p S)).1 → cEnd M M' → Q none M') : wp (kcs L xs) (d + 25) 17 22 [some (jR 0), some (jI n), none] [jI 9] M Q := by
  obtain ⟨c0, c1, c2, c3, c4, c5, c6, c7⟩ := cin_b h
  refine s17_22 (ca_n6 (d := d + 18) (rfl) c0 (fun A n0 ng a1 a2 a3 => ?_))
  rw [c1, c2, c3] at a1 a2 a3
  have nb := rBN_b (g := M 2) (e := n) (m := 6) (p := p) (w := 0) (by omega) c6
  have e10 := e6_10
  have hN := cR_aG hS hk.2.2.2.2.1 ng
  refine cw_fin (d := d + 20) (r := rq_pick (M 2) n p S) ⟨by omega, by omega⟩ ⟨by omega, by omega⟩ hN hk (aF_end (aG_F ng)) a1 (show 0 ≤ (rBN (M 2) n 6 p 0).2.1 ∧ (rBN (M 2) n 6 p 0).2.1 ≤ 5606 by omega) a2 (show (rBN (M 2) n 6 p 0).2.2 = 0 ∨ (rBN (M 2) n 6 p 0).2.2 = 1 by omega) K (fun e3 e1 hSN h30 hO R hR => ⟨fun h => by omega, fun _ _ => ?_, fun h => by omega, fun h => by omega, fun h => by omega, fun h => by omega, fun h => by omega, fun h => by omega⟩)
  obtain ⟨a, ha⟩ : ∃ a : Nat, (rBN (M 2) n 6 p 0).1 = (a : Int) := ⟨(rBN (M 2) n 6 p 0).1.toNat, by omega⟩
  rw [ha] at nb a3
  refine s74 (cl_learn (d := d + 20) hSN hk h30 (fun N n1 n2 n3 n4 n5 n6 n7 => s74_7 ⟨⟨by omega, by omega⟩, fun h => by omega, fun h => by omega, fun _ => ?_, fun h => by omega, fun h => by omega, fun h => by omega, fun h => by omega⟩))
  rw [n5, up9, a3]
  have et : (rq_pick (M 2) n p S).2.2 = (tPick S.1 a, S) := by
    unfold rq_pick
    rw [ha]
    rfl
  rw [et] at hR
  refine sp_writePick (d := d + 8) hk.1 n2 (ca_ok0 n3) (n := a) (by omega) (s74_110 ?_)
  obtain ⟨r1, r2, r3⟩ := fi_wr (cs := tPick S.1 a) n1 hk.2.2.2.2.1 n3 (Nat.le_trans (tPick_len hk.1) (by omega)) cwr_o
  exact hR _ r1 r2 (cEnd_tr n4 r3)
theorem cw_make {n p : Int} (h : cIn M n p 0) (hS : cRl M S) (hk : hOk k S) (K : ∀ M', cRl M' (fnR n S (rq_make (M 2) n p S)).2 → ctx M' (fnR n S (rq_make (M 2) n p S)).1 → cEnd M M' → Q none M') : wp (kcs L xs) (d + 25) 17 22 [some (jR 0), some (jI n), none] [jI 12] M Q := by
  obtain ⟨c0, c1, c2, c3, c4, c5, c6, c7⟩ := cin_b h
  refine s17_22 (ca_cd (d := d + 18) (Or.inl rfl) c0 (fun A n0 ng a1 a2 a3 a4 => ?_))
  rw [c1, c2, c3] at a1 a2 a3 a4
  have nb := rBN_b (g := M 2) (e := n) (m := 3) (p := p) (w := 0) (by omega) c6
  have sb := rBN_b (g := M 2) (e := n) (m := 1) (p := (rBN (M 2) n 3 p 0).2.1) (w := (rBN (M 2) n 3 p 0).2.2) (by omega) (by omega)
  have er : rBN (M 2) n 1 (rBN (M 2) n 3 p 0).2.1 (rBN (M 2) n 3 p 0).2.2 = rCd (M 2) n p := rfl
  rw [er] at sb a1 a2 a4
  have e10 := e3_10
  have e11 := e1_10
  have hN := cR_aG hS hk.2.2.2.2.1 ng
  refine cw_fin (d := d + 20) (r := rq_make (M 2) n p S) ⟨by omega, by omega⟩ ⟨by omega, by omega⟩ hN hk (aF_end (aG_F ng)) a1 (show 0 ≤ (rCd (M 2) n p).2.1 ∧ (rCd (M 2) n p).2.1 ≤ 5606 by omega) a2 (show (rCd (M 2) n p).2.2 = 0 ∨ (rCd (M 2) n p).2.2 = 1 by omega) K (fun e3 e1 hSN h30 hO R hR => ⟨fun h => by omega, fun _ _ => ?_, fun h => by omega, fun h => by omega, fun h => by omega, fun h => by omega, fun h => by omega, fun h => by omega⟩)
  refine s74 (cl_learn (d := d + 20) hSN hk h30 (fun N n1 n2 n3 n4 n5 n6 n7 => s74_7 ⟨⟨by omega, by omega⟩, fun h => by omega, fun h => by omega, fun h => by omega, fun h => by omega, fun h => by omega, fun _ => ?_, fun h => by omega⟩))
  rw [n5, up9, up9, a3, a4]
  have et : (rq_make (M 2) n p S).2.2 = ((if 1 < (rCd (M 2) n p).1 then tNoKind else if ans (zfre S.1) = [] then wls 1852796517 else tMade S.1 (rBN (M 2) n 3 p 0).1 (rCd (M 2) n p).1), (if 1 < (rCd (M 2) n p).1 then S else if ans (zfre S.1) = [] then S else (zMk S.1 (rBN (M 2) n 3 p 0).1 (rCd (M 2) n p).1, pv_new S.2.1, S.2.2))) := rfl
  rw [et] at hR
  refine sp_make (d := d + 8) hk.1 n2 (ca_ok0 n3) ⟨by omega, by omega⟩ ⟨by omega, by omega⟩ (fun g1 => s74_168 ⟨⟨by omega, by omega⟩, fun _ => ?_, fun h => absurd rfl h⟩) (fun g1 g2 => s74_168 ⟨⟨by omega, by omega⟩, fun _ => ?_, fun h => absurd rfl h⟩) (fun g1 g2 M' m1 m2 m3 => s74_168 ⟨⟨by omega, by omega⟩, fun h => by omega, fun _ => ?_⟩)
  · rw [if_pos g1, if_pos g1] at hR
    obtain ⟨r1, r2, r3⟩ := fi_wr (cs := tNoKind) n1 hk.2.2.2.2.1 n3 (by decide +kernel) cwr_o
    exact hR _ r1 r2 (cEnd_tr n4 r3)
  · rw [if_neg (by omega), if_pos g2, if_neg (by omega), if_pos g2] at hR
    obtain ⟨r1, r2, r3⟩ := fi_wr (cs := wls 1852796517) n1 hk.2.2.2.2.1 n3 (Nat.le_trans wls_8 (by omega)) cwr_o
    exact hR _ r1 r2 (cEnd_tr n4 r3)
  · rw [if_neg (by omega), if_neg g2, if_neg (by omega), if_neg g2] at hR
    have f : ∀ b j, b ≠ 3 → b ≠ 4 → b ≠ 17 → ¬ csc b → M' b j = N b j := fun b j b1 b2 b3 b4 => by rw [m1 b j b4 (by omega), o_app_ne b1 b2]
    refine sp_pbegin (d := d + 22) (cpv_fr n1.2.2.1 (fun b j b1 b2 => f b j (by omega) (by omega) (by omega) (by unfold csc; omega))) (fun P p1 p2 => s74_178 ?_)
    refine hR P ?_ ?_ (cEnd_tr n4 (fun b j hb => by rw [p2 b j (by omega), f b j (by omega) (by omega) (by omega) (by unfold csc; omega)]))
    · exact cRl_mk n1 hk.2.2.2.2.1 (cz_fr m2.1 (fun b j b1 b2 => p2 b j (by omega))) p1 (fun b j hb => by rw [p2 b j (by omega), f b j (by omega) (by omega) (by omega) (by unfold csc; omega)])
    · exact ctx_out n3 (Nat.le_trans wd_len (by omega)) (by rw [p2 3 1 (by omega), m1 3 1 csc_3 (by omega)]) (fun j => by rw [p2 4 j (by omega), m1 4 j csc_4 (by omega)])
theorem rLo_Z {g : Int → Int} {n p : Int} {Y X : PZ} : (rLo g n p Y).1 = (rLo g n p X).1 ∧ (rLo g n p Y).2.1 = (rLo g n p X).2.1 ∧ (rLo g n p Y).2.2.1 = (rLo g n p X).2.2.1 ∧ ((rLo g n p Y).2.1 = 0 → (rLo g n p Y).2.2.1 = 0 → (rLo g n p Y).2.2.2 = (rLo g n p X).2.2.2) := by
  unfold rLo
  have hz := rText_Z (g := g) (e := n) (p := (rT g n 32 p 0).1) (w := (rT g n 32 p 0).2) (Z := Y) (Y := X)
  rcases rT01 (g := g) (e := n) (c := 32) (p := p) with e | e
  · rw [e] at hz ⊢
    have h2 := rText_pw2 (g := g) (e := n) (p := (rT g n 32 p 0).1) (rf := 0) (rf' := 0) (Z := Y) (Z' := X)
    exact ⟨h2.1, h2.2, hz.1, hz.2⟩
  · rw [e] at hz ⊢
    have h1 := rText_w1 (g := g) (e := n) (p := (rT g n 32 p 0).1) (rf := 0) (Z := Y)
    have h2 := rText_w1 (g := g) (e := n) (p := (rT g n 32 p 0).1) (rf := 0) (Z := X)
    exact ⟨by rw [h1.1, h2.1], by rw [h1.2, h2.2], hz.1, hz.2⟩
end RQJ
