/-! REQUESTS, the class: check, contest, table. -/
theorem tCk_len {Z : PZ} {A : List LN} (h : (tCkE Z A).length ≤ 60) : ∀ (t i : Nat), (tCk Z A t i).length ≤ 60
  | 0, _ => h
  | t + 1, i => by
    unfold tCk
    split
    · exact tCk_len h t (i + 1)
    · exact Nat.le_trans wd_len (by omega)
theorem tCkE_len {Z : PZ} {A : List LN} : (tCkE Z A).length ≤ 60 := by
  unfold tCkE
  split
  · exact Nat.le_trans wd_len (by omega)
  · exact Nat.le_trans wls_8 (by omega)
theorem ordC_len {a b c : Bool} : (ordC a b c).length = 3 := by
  cases a <;> cases b <;> cases c <;> rfl
theorem tTab_len {C : List CI} : (tTab C).length ≤ 90 := by
  have h := fm_len (f := tPer C) (m := 30) (ordC (ahd C 1 0) (ahd C 2 0) (ahd C 2 1)) (fun p _ => by
    have h1 := dgs_len (v := (p : Int))
    have h2 := dgs_len (v := ptP C p)
    have h3 := dgs_len (v := tmP C p)
    unfold tPer
    simp only [List.length_append, List.length_cons, List.length_nil]
    omega)
  rw [ordC_len] at h
  unfold tTab
  omega
/-- the lines of a proof behind a blank -/
def rCk (g : Int → Int) (n p : Int) : List LN × Int × Int := rPf g n ((n - (rT g n 32 p 0).1).toNat + 1) (rT g n 32 p 0).1
noncomputable def rq_check (g : Int → Int) (n p : Int) (S : HS) : Int × Int × List Int × HS := if (rT g n 32 p 0).2 = 0 then ((rCk g n p).2.1, (rCk g n p).2.2, tCheck S.1 (rCk g n p).1, S) else ((rT g n 32 p 0).1, 1, [], S)
def rq_contest (p : Int) (S : HS) : Int × Int × List Int × HS := (p, 0, t_ok, (S.1, S.2.1, [], S.2.2.2))
def rq_table (p : Int) (S : HS) : Int × Int × List Int × HS := (p, 0, tTab S.2.2.1, S)
section RQN
variable {L : Nat} {xs : Nat → Int32} {d : Nat} {M : fx_M} {Q : Option fx_V → fx_M → Prop} {S : HS} {k : Nat}
theorem cw_contest {n p : Int} (h : cIn M n p 0) (hS : cRl M S) (hk : hOk k S) (K : ∀ M', cRl M' (fnR n S (rq_contest p S)).2 → ctx M' (fnR n S (rq_contest p S)).1 → cEnd M M' → Q none M') : wp (kcs L xs) (d + 25) 17 22 [some (jR 0), some (jI n), none] [jI 32] M Q := by
  refine cw_np (r := (rq_contest p S).2.2) ⟨by omega, by omega⟩ (by unfold lgV; omega) (by omega) h hS hk K (fun hSN h30 R hR => ⟨fun h => by omega, fun _ h => by omega, fun _ h => by omega, fun _ h => by omega, fun _ h => by omega, fun _ _ => ?_, fun h => by omega, fun h => by omega⟩)
  refine s176 ⟨⟨by omega, by omega⟩, fun _ => ?_, fun h => by omega, fun h => by omega, fun h => by omega⟩
  have e31 : (fx_up (fx_up M 3 1 0) 62 0 0) 3 1 = 0 := by rw [fx_up_na (by decide), h30]
  have hB : cRl (fx_up (fx_up M 3 1 0) 62 0 0) (S.1, S.2.1, [], S.2.2.2) := by
    obtain ⟨h1, ⟨Y, y1, y2⟩, h3, h4, h5, h6, h7⟩ := hSN
    refine ⟨cz_fr h1 (fun b j b1 b2 => fx_up_na (by omega)), ⟨Y, cz_fr y1 (fun b j b1 b2 => fx_up_na (by omega)), y2⟩, cpv_fr h3 (fun b j b1 b2 => fx_up_na (by omega)), ⟨fx_up_self .., fun i t hi => by cases hi⟩, by rw [fx_up_na (by decide)]; exact h5, ?_, clg_fr h7 (fun b j b1 b2 => fx_up_na (by omega))⟩
    rw [← h6]
    funext j
    exact fx_up_na (by decide)
  have hk0 : ct_ok k ([] : List CI) := ⟨hk.2.2.2.2.1.1, by simp, fun t ht => by cases ht⟩
  refine sp_puts (d := d + 19) fx_out3 lt_1000063 (ca_ok0 e31) (s176_46 ?_)
  rw [t_ok_s]
  obtain ⟨r1, r2, r3⟩ := fi_wr (cs := t_ok) hB hk0 e31 (by decide) cwr_o
  exact hR _ r1 r2 (cEnd_tr (fun b j hb => fx_up_na (by omega)) r3)
theorem cw_table {n p : Int} (h : cIn M n p 0) (hS : cRl M S) (hk : hOk k S) (K : ∀ M', cRl M' (fnR n S (rq_table p S)).2 → ctx M' (fnR n S (rq_table p S)).1 → cEnd M M' → Q none M') : wp (kcs L xs) (d + 25) 17 22 [some (jR 0), some (jI n), none] [jI 35] M Q := by
  refine cw_np (r := (rq_table p S).2.2) ⟨by omega, by omega⟩ (by unfold lgV; omega) (by omega) h hS hk K (fun hSN h30 R hR => ⟨fun h => by omega, fun _ h => by omega, fun _ h => by omega, fun _ h => by omega, fun _ h => by omega, fun _ _ => ?_, fun h => by omega, fun h => by omega⟩)
  refine s176 ⟨⟨by omega, by omega⟩, fun h => by omega, fun h => by omega, fun h => by omega, fun _ => ?_⟩
  refine sp_writeTable (d := d + 21) hSN.2.2.2.1 hk.2.2.2.2.1 (ca_ok0 h30) (fun M' hm => s176_106 ?_)
  obtain ⟨h1, ⟨Y, y1, y2⟩, h3, h4, h5, h6, h7⟩ := hSN
  have f : ∀ b j, b ≠ 3 → b ≠ 4 → b ≠ 69 → b ≠ 70 → M' b j = (fx_up M 3 1 0) b j := fun b j b1 b2 b3 b4 => by rw [hm b j b3 b4, o_app_ne b1 b2]
  refine hR M' ⟨cz_fr h1 (fun b j b1 b2 => f b j (by omega) (by omega) (by omega) (by omega)), ⟨Y, cz_fr y1 (fun b j b1 b2 => f b j (by omega) (by omega) (by omega) (by omega)), y2⟩, cpv_fr h3 (fun b j b1 b2 => f b j (by omega) (by omega) (by omega) (by omega)), ?_, by rw [f _ _ (by omega) (by omega) (by omega) (by omega)]; exact h5, ?_, clg_fr h7 (fun b j b1 b2 => f b j (by omega) (by omega) (by omega) (by omega))⟩ (ctx_out h30 (Nat.le_trans tTab_len (by omega)) (hm 3 1 (by decide) (by decide)) (fun j => hm 4 j (by decide) (by decide))) (fun b j hb => f b j (by omega) (by omega) (by omega) (by omega))
  · refine ⟨by rw [f _ _ (by omega) (by omega) (by omega) (by omega)]; exact h4.1, fun i t hi => ?_⟩
    have hl := (List.getElem?_eq_some_iff.mp hi).1
    have h6l := hk.2.2.2.2.1.2.1
    obtain ⟨q1, q2, q3, q4, q5⟩ := h4.2 i t hi
    exact ⟨by rw [f _ _ (by omega) (by omega) (by omega) (by omega)]; exact q1, fun j c hj => by rw [f _ _ (by omega) (by omega) (by omega) (by omega)]; exact q2 j c hj, cz_fr q3 (fun b j b1 b2 => f b j (by omega) (by omega) (by omega) (by omega)), by rw [f _ _ (by omega) (by omega) (by omega) (by omega)]; exact q4, fun p hp => ⟨by rw [f _ _ (by omega) (by omega) (by omega) (by omega)]; exact (q5 p hp).1, by rw [f _ _ (by omega) (by omega) (by omega) (by omega)]; exact (q5 p hp).2⟩⟩
  · show M' 126 = S.2.2.2.2.1
    rw [← h6]
    funext j
    exact f 126 j (by omega) (by omega) (by omega) (by omega)
theorem cLnS_fr {Z : PZ} {N : fx_M} {A : List LN} (h : cLnS Z M A) (h34 : N 34 0 = M 34 0) (f : ∀ b j, 35 ≤ b → b ≤ 39 → N b j = M b j) : cLnS Z N A := ⟨by rw [h34]; exact h.1, fun i x hi => cln_fr (h.2 i x hi) (fun b b1 b2 => f b i b1 b2)⟩
theorem cw_check {n p : Int} (h : cIn M n p 0) (hS : cRl M S) (hk : hOk k S) (hl : (rCk (M 2) n p).1.length ≤ 1600) (K : ∀ M', cRl M' (fnR n S (rq_check (M 2) n p S)).2 → ctx M' (fnR n S (rq_check (M 2) n p S)).1 → cEnd M M' → Q none M') : wp (kcs L xs) (d + 25) 17 22 [some (jR 0), some (jI n), none] [jI 15] M Q := by
  obtain ⟨c0, c1, c2, c3, c4, c5, c6, c7⟩ := cin_b h
  refine s17_22 (ca_long (d := d + 15) ⟨by omega, by omega⟩ lg_1.2.2.2.1 (s44 ⟨⟨by omega, by omega⟩, fun h => by omega, fun h => by omega, fun h => by omega, fun _ => ?_, fun h => by omega, fun _ _ _ h => absurd rfl h⟩))
  refine tTk (d := d + 21) c0 (fun N n1 n2 => s44_118 ?_)
  have f : ∀ b j, ¬ (b = 7 ∧ (j = 1 ∨ j = 3)) → N b j = M b j := fun b j h => by rw [n2, rd_ne h]
  have e2 : N 2 = M 2 := funext (fun j => f 2 j (by omega))
  have e72 : N 7 2 = n := by rw [f 7 2 (by omega), c2]
  have e1 : N 7 1 = (rT (M 2) n 32 p 0).1 := by rw [n2, rd_1, c1, c2, c3]
  have e3 : N 7 3 = (rT (M 2) n 32 p 0).2 := by rw [n2, rd_3, c1, c2, c3]
  have tb := rT_b (g := M 2) (e := n) (c := 32) (p := p) (w := 0) c6
  have er : rPf (M 2) n ((n - (rT (M 2) n 32 p 0).1).toNat + 1) (rT (M 2) n 32 p 0).1 = rCk (M 2) n p := rfl
  have hSN : cRl N S := cRl_fr hS hk.2.2.2.2.1 (fun b j hb => f b j (by omega))
  refine sp_readProof (d := d + 15) (Z := S.1) hk.1 n1 hSN.1 (fun _ => ?_) (fun hw => ?_) (fun hw P p1 p2 p3 p4 p5 => ?_)
  · rw [e2, e72, e1, er]
    exact hl
  · refine s44_129 (s32_351 ?_)
    rw [e3] at hw
    have ea : rq_check (M 2) n p S = ((rT (M 2) n 32 p 0).1, 1, [], S) := by
      unfold rq_check
      rw [if_neg hw]
    rw [ea] at K
    have hP : cRl (fx_up N 34 0 0) S := cRl_fr hSN hk.2.2.2.2.1 (fun b j hb => fx_up_na (by omega))
    refine cw_fin (d := d + 20) (r := ((rT (M 2) n 32 p 0).1, 1, [], S)) ⟨by omega, by omega⟩ ⟨by omega, by omega⟩ hP hk (fun b j hb => by rw [fx_up_na (by omega), f b j (by omega)]) (by rw [fx_up_na (by decide)]; exact e1) (show 0 ≤ (rT (M 2) n 32 p 0).1 ∧ (rT (M 2) n 32 p 0).1 ≤ 5606 by omega) (by rw [fx_up_na (by decide), e3]; show (rT (M 2) n 32 p 0).2 = 1; omega) (Or.inr rfl) K (fun e => absurd (show (1 : Int) = 0 from e) (by decide))
  · refine s44_129 (s32_351 ?_)
    rw [e3] at hw
    rw [e2, e72, e1, er] at p2 p3 p4
    have ea : rq_check (M 2) n p S = ((rCk (M 2) n p).2.1, (rCk (M 2) n p).2.2, tCheck S.1 (rCk (M 2) n p).1, S) := by
      unfold rq_check
      rw [if_pos hw]
    rw [ea] at K
    have hP : cRl P S := cRl_fr hSN hk.2.2.2.2.1 (fun b j hb => p5 b j (by omega) (by omega) (by omega))
    have sp1 := sc_p p1
    have s72 := p1.2.2.2.2.2.1
    have sw0 := p1.2.2.2.2.2.2.1
    have sw1 := p1.2.2.2.2.2.2.2.1
    refine cw_fin (d := d + 20) (r := ((rCk (M 2) n p).2.1, (rCk (M 2) n p).2.2, tCheck S.1 (rCk (M 2) n p).1, S)) ⟨by omega, by omega⟩ ⟨by omega, by omega⟩ hP hk (fun b j hb => by rw [p5 b j (by omega) (by omega) (by omega), f b j (by omega)]) p2 (show 0 ≤ (rCk (M 2) n p).2.1 ∧ (rCk (M 2) n p).2.1 ≤ 5606 by omega) p3 (show (rCk (M 2) n p).2.2 = 0 ∨ (rCk (M 2) n p).2.2 = 1 by omega) K (fun g3 g1 hB h30 hO R hR => ⟨fun h => by omega, fun _ h => by omega, fun _ _ => ?_, fun h => by omega, fun h => by omega, fun h => by omega, fun h => by omega, fun h => by omega⟩)
    have hKl : ∀ x ∈ (rCk (M 2) n p).1, lnK x := rPf_K _ _ tb.2.1 g3
    have h1l : 1 ≤ (rCk (M 2) n p).1.length := rPf_1
    refine s103 (cl_learn (d := d + 20) hB hk h30 (fun T t1 t2 t3 t4 t5 t6 t7 => s103_7 ⟨⟨by omega, by omega⟩, fun h => by omega, fun _ => ?_, fun h => by omega, fun h => by omega, fun h => by omega, fun h => by omega, fun h => by omega⟩))
    have hA : cLnS S.1 T (rCk (M 2) n p).1 := cLnS_fr p4 (by rw [t6, fx_up_na (by decide)]) (fun b j b1 b2 => by rw [t7 b j b1 b2, fx_up_na (by omega)])
    refine sp_verdict (d := d + 8) hk.1 t2 hA hl h1l hKl (ca_ok0 t3) (fun M' hm => s103_65 ?_)
    obtain ⟨r1, r2, r3⟩ := fi_wr t1 hk.2.2.2.2.1 t3 (Nat.le_trans (tCk_len (tCkE_len) _ _) (by omega)) hm
    exact hR _ r1 r2 (cEnd_tr t4 r3)
end RQN
