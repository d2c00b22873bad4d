/-! REQUESTS, the reference: load, check, contest, book, with arguments. -/
theorem mB_b {b : Nat} {j : Int} (h : b < 133 ∨ b = 134 ∨ (b = 133 ∧ (j = 0 ∨ j = 1 ∨ j = 80 ∨ j = 89)) ∨ ucell 0 b j ∨ (∃ u : Int, 4 ≤ u ∧ u ≤ 9 ∧ ucell u b j) ∨ (174 ≤ b ∧ b ≤ 187)) : (b < 133 ∨ b = 134 ∨ (b = 133 ∧ (j = 0 ∨ j = 1 ∨ j = 80 ∨ j = 89))) ∨ (146 ≤ b ∧ b ≤ 187) := by
  rcases h with h | h | h | h | ⟨u, _, _, h⟩ | h
  · omega
  · omega
  · omega
  · have := uc_b h
    omega
  · have := uc_b h
    omega
  · omega
theorem mB_u {b : Nat} {j : Int} (h : b < 133 ∨ b = 134 ∨ (b = 133 ∧ (j = 0 ∨ j = 1 ∨ j = 80 ∨ j = 89)) ∨ ucell 0 b j ∨ (∃ u : Int, 4 ≤ u ∧ u ≤ 9 ∧ ucell u b j) ∨ (174 ≤ b ∧ b ≤ 187)) : ¬ ucell 1 b j := by
  rcases h with h | h | h | h | ⟨u, _, _, h⟩ | h
  · exact fun x => by have := uc_b x; omega
  · exact fun x => by have := uc_b x; omega
  · exact fun x => by have := uc_b x; omega
  · exact uc_n h (by omega)
  · exact uc_n h (by omega)
  · exact fun x => by have := uc_b x; omega
theorem rPf_bd {g : Int → Int} {e : Int} : ∀ (f : Nat) (p : Int), p ≤ e → p ≤ (rPf g e f p).2.1 ∧ (rPf g e f p).2.1 ≤ e
  | 0, p, h => ⟨Int.le_refl p, h⟩
  | f + 1, p, h => by
    have hb := rLn_b (g := g) (w := 0) h
    rw [rPf]
    split
    · have ih := rPf_bd (g := g) f (rLn g e p 0).2.1 hb.2.1
      dsimp only
      omega
    · dsimp only
      omega
section MRG
variable {kc : List va_E} {d : Nat} {M N : fx_M} {Q : Option fx_V → fx_M → Prop} {S : HS} {k : Nat}
theorem m_nm {g : Int → Int} {a l : Int} (hg : ∀ j, N 135 j = g j) (h15 : N 133 15 = a) (h16 : N 133 16 = l) (ha : 0 ≤ a) (hl : 1 ≤ l ∧ l ≤ 8) (hal : a + l ≤ 6100) : mnm N (nmO g a l) := by
  refine ⟨by rw [nmO_len, h16]; omega, by omega, by rw [nmO_len]; omega, fun j c hj => ?_⟩
  rw [hg, h15]
  exact nmO_get hj
theorem nmO_ok {g : Int → Int} {a l n : Int} (hb : ∀ j, 0 ≤ j → j < n → 0 ≤ g j ∧ g j ≤ 65535) (ha : 0 ≤ a) (hl : 1 ≤ l ∧ l ≤ 8) (hal : a + l ≤ n) : nm_ok (nmO g a l) := by
  refine ⟨by rw [nmO_len]; omega, by rw [nmO_len]; omega, fun c hc => ?_⟩
  obtain ⟨j, hj1, hj2⟩ := List.mem_map.mp hc
  have hj := List.mem_range.mp hj1
  rw [← hj2]
  exact hb (a + (j : Int)) (by omega) (by omega)
theorem rm_mlg {b : Int → Int} {o : Int} {R : fx_M} (hM : bMd b) (hb : bk_b b) (ho : 0 ≤ o ∧ o < b (bRt b)) (r2 : ∀ j, 0 ≤ j → j < 1024 → R 189 j = b j) (r3 : R 133 99 = 0) (r4 : R 133 100 = 0) (r5 : R 133 101 = 3 - bRt b / 32) (r6 : R 133 102 = 33) : mlg R (wLog b (rtD b o 0 0)) := by
  have hrb := bRt_b (g := b)
  have h0 := hb (bRt b) (by omega) (by omega)
  have h15 := hM.2.1
  have ha : aft (b (bRt b)) o 0 ≤ 15 := by
    unfold aft
    rw [if_neg (by omega)]
    split <;> omega
  have h30 := prs_30 h0.1 ⟨by omega, by omega⟩ ha 0
  have h32 := rtB_len h30
  have := log_mlg (M' := R) (E := []) (n := 0) (f := 0) (Or.inl rfl) rfl h30 ⟨by omega, by omega⟩ (by omega) r3 r4 r5 r6 r2 (fun x hx => ?_)
  · exact this
  · rcases List.mem_append.mp hx with e | e
    · cases e
    · unfold rtD at e
      rcases List.mem_append.mp e with e | e
      · have h1 := plc_in e
        omega
      · rw [List.mem_singleton.mp e]
        dsimp only
        omega
/-- an end that writes the book -/
theorem mf_bk {T : fx_M} {b' : Int → Int} {W' : List (Int × Int)} {o' : Int} {cs : List Int} (hN : mRl N S) (hk : hOk k S) (h5 : N 133 5 = 0) (hl : cs.length ≤ 6000) (ht : mtq T cs) (hb : mbk T b') (hw : mlg T W') (h96 : T 133 96 = o') (f : ∀ b j, (b < 133 ∨ b = 134 ∨ (b = 133 ∧ (j = 0 ∨ j = 1 ∨ j = 80 ∨ j = 89)) ∨ ucell 0 b j ∨ (∃ u : Int, 4 ≤ u ∧ u ≤ 9 ∧ ucell u b j) ∨ (174 ≤ b ∧ b ≤ 187)) → T b j = N b j) : mRl T (S.1, S.2.1, S.2.2.1, o', b', W') ∧ mtq T cs ∧ mEnd N T := by
  obtain ⟨h1, h2, h3, h4, h5, h6⟩ := hN
  refine ⟨⟨mz_uc h1 hk.1 (fun b j hb => f b j (Or.inr (Or.inr (Or.inr (Or.inl hb))))), mpv_fr h2 (f 133 80 (by omega)) (fun b j b1 b2 => f b j (by omega)), mct_uc h3 hk.2.2.2.2.1 (f 133 89 (by omega)) (fun b j hb => ?_), h96, hb, hw⟩, ht, fun b j hb => f b j (by omega)⟩
  rcases hb with hb | hb
  · exact f b j (Or.inr (Or.inr (Or.inr (Or.inr (Or.inl hb)))))
  · exact f b j (by omega)
theorem mw_load {n p : Int} (hp4 : p = 4) (h : mIn M n p) (hS : mRl M S) (hk : hOk k S) (K : ∀ M', mRl M' (fnR n S (rq_load (M 135) n p S)).2 → mtq M' (fnR n S (rq_load (M 135) n p S)).1 → mEnd M M' → Q (some (jI (M' 133 5))) M') : wp kc (d + 20) 219 17 [some (jR 133), none] [jI 6] M Q := by
  obtain ⟨c0, rfl, rfl, c3, c4, c5, c6⟩ := min_b h
  have tb := rT_b (g := M 135) (e := M 133 3) (c := 32) (p := M 133 7) (w := 0) c5
  have lb : (rT (M 135) (M 133 3) 32 (M 133 7) 0).1 ≤ (rLo (M 135) (M 133 3) (M 133 7) (z_new 1 1 1)).1 ∧ (rLo (M 135) (M 133 3) (M 133 7) (z_new 1 1 1)).1 ≤ M 133 3 ∧ 0 ≤ (rLo (M 135) (M 133 3) (M 133 7) (z_new 1 1 1)).2.1 ∧ (rLo (M 135) (M 133 3) (M 133 7) (z_new 1 1 1)).2.1 ≤ 1 := rText_b tb.2.1
  refine mw_arg (r := rq_load (M 135) (M 133 3) (M 133 7) S) ⟨by omega, by omega⟩ h hS hk (show 0 ≤ (rLo (M 135) (M 133 3) (M 133 7) (z_new 1 1 1)).1 ∧ (rLo (M 135) (M 133 3) (M 133 7) (z_new 1 1 1)).1 ≤ 6100 by omega) K (fun R h0 h1 => ma_text c0 h0 (fun N aN a7 aw => h1 N aN a7 aw (fun hN n5 n3 hn R' hR => ?_)))
  refine s257 ⟨⟨by omega, by omega⟩, fun h => by omega, fun h => by omega, fun h => by omega, fun h => by omega, fun h => by omega, fun h => by omega, fun _ => ?_, fun h => by omega, fun h => by omega, fun h => by omega, fun h => by omega, fun h => by omega, fun h => by omega, fun h => by omega, fun h => by omega, fun h => by omega, fun h => by omega, fun h => by omega, fun h => by omega, fun h => by omega, fun h => by omega, fun h => by omega, fun h => by omega, fun h => by omega, fun h => by omega, fun h => by omega, fun h => by omega, fun h => by omega, fun h => by omega, fun h => by omega, fun h => by omega, fun h => by omega, fun h => by omega, fun h => by omega, fun h => by omega, fun h => by omega, fun h => by omega, fun h => by omega, fun h => by omega, fun h => by omega, fun h => by omega, fun h => by omega, fun h => by omega, fun h => by omega, fun h => by omega, fun h => by omega⟩
  have et : (rq_load (M 135) (M 133 3) (M 133 7) S).2.2 = (t_rf (rLo (M 135) (M 133 3) (M 133 7) (z_new 1 1 1)).2.2.1, ((if (rLo (M 135) (M 133 3) (M 133 7) (z_new 1 1 1)).2.2.1 = 0 then (rLo (M 135) (M 133 3) (M 133 7) (z_new 1 1 1)).2.2.2 else S.1), vNew (rLo (M 135) (M 133 3) (M 133 7) (z_new 1 1 1)).2.2.1 S.2.1, S.2.2)) := rfl
  rw [et] at hR
  have ht : (rT (M 135) (M 133 3) 32 (M 133 7) 0) = (5, 0) := by
    rcases rT_i (g := M 135) (e := M 133 3) (c := 32) (p := M 133 7) with ⟨y, _⟩ | ⟨y, _⟩
    · rw [y, hp4]
      rfl
    · have hw : (rLo (M 135) (M 133 3) (M 133 7) (z_new 1 1 1)).2.1 = 0 := aw
      unfold rLo at hw
      rw [y, rText_w1.2] at hw
      cases hw
  have el : (rLo (M 135) (M 133 3) (M 133 7) (z_new 1 1 1)) = rText (M 135) (M 133 3) 5 0 0 (z_new 1 1 1) := by
    unfold rLo
    rw [ht]
  rw [el] at hR lb
  rw [ht] at lb
  have aw' : (rText (M 135) (M 133 3) 5 0 0 (z_new 1 1 1)).2.1 = 0 := by
    rw [← el]
    exact aw
  have ag : N 135 = M 135 := funext (fun j => aN 135 j (by omega) (by omega))
  have g7 : (fx_up N 133 7 5) 133 7 = 5 := fx_up_self ..
  have g3 : (fx_up N 133 7 5) 133 3 = M 133 3 := by rw [fx_up_nk (by decide), n3]
  have gg : (fx_up N 133 7 5) 135 = M 135 := by
    rw [← ag]
    exact funext (fun j => fx_up_na (by decide))
  have hm : ms_at (fx_up (fx_up N 133 7 5) 133 23 0) := by
    refine ms_up (ms_q c0 ?_ g3 (fun j => by rw [gg])) (by decide) (by omega)
    rw [g7]
    omega
  refine s263 (sp_scanTextG (d := d + 9) (Z := z_new 1 1 1) (u := 1) (by omega) (by omega) hm ?_ ?_)
  · rw [gg, g3, g7, mText_eq (by omega)]
    intro _ A m1 m2 m3
    generalize rText (M 135) (M 133 3) 5 0 0 (z_new 1 1 1) = X at m1 m2 hR aw' lb
    obtain ⟨q1, q2, q3, q4, q5, q6⟩ := m1
    have fA : ∀ b j, ¬ (b = 133 ∧ 7 ≤ j ∧ j ≤ 23) → b ≠ 137 → ¬ ucell 1 b j → A b j = N b j := fun b j b1 b2 b3 => by rw [m3 b j b1 b2 (fun x => b3 x.2), fx_up_ne (by omega)]
    have hA : mRl A S := mRl_fr hN hk (fun b j hb => by
      have := mCl_b hb
      exact fA b j (by omega) (by omega) (mCl_u hb (by omega)))
    have hAE : mEnd N A := fun b j hb => fA b j (by omega) (by omega) (fun x => by have := uc_b x; omega)
    have a5 : A 133 5 = 0 := (fA 133 5 (by omega) (by omega) (fun x => by have := uc_b x; omega)).trans n5
    refine s263_5 ⟨⟨by omega, by omega⟩, fun hne => ?_, fun h0 => ?_⟩
    · have hne' : X.2.2.1 ≠ 0 := by rw [← q2]; exact hne
      have e1 : vNew X.2.2.1 S.2.1 = S.2.1 := by
        unfold vNew
        rw [if_neg hne']
      rw [if_neg hne', e1] at hR
      rw [q2]
      refine sp_sayRefusal (d := d + 12) ⟨by omega, by omega⟩ (m_ok0 a5) (s263_31 (s257_220 ?_))
      obtain ⟨r1, r2, r3⟩ := mf_app (cs := t_rf X.2.2.1) hA hk a5 (Nat.le_trans t_rf_len (by omega))
      exact hR _ r1 r2 (mEnd_tr hAE r3)
    · have h0' : X.2.2.1 = 0 := by rw [← q2]; exact h0
      have e1 : vNew X.2.2.1 S.2.1 = pv_new S.2.1 := by
        unfold vNew
        rw [if_pos h0']
      rw [if_pos h0', e1, h0'] at hR
      obtain ⟨y1, y2⟩ := q6 (by omega) h0'
      refine sp_mcopy (d := d + 15) ⟨by omega, by omega⟩ ⟨by omega, by omega⟩ (by omega) y1 y2 (fun B b1 b2 => s263_19 ?_)
      have fB : ∀ b j, ¬ ucell 0 b j → B b j = A b j := fun b j hb => by
        unfold ucell at hb
        exact b2 b j (by omega) (by omega) (by omega) (by omega)
      refine sp_playAnew (d := d + 16) (mpv_fr hA.2.1 (fB 133 80 (fun x => by have := uc_b x; omega)) (fun b j c1 c2 => fB b j (fun x => by have := uc_b x; omega))) (fun T t1 t2 => s263_23 ?_)
      have t5 : T 133 5 = 0 := by rw [t2 133 5 (by omega), fB 133 5 (fun x => by have := uc_b x; omega), a5]
      have t23 : T 133 23 = 0 := by rw [t2 133 23 (by omega), fB 133 23 (fun x => by have := uc_b x; omega), h0]
      rw [t23]
      refine sp_sayRefusal (d := d + 12) ⟨by omega, by omega⟩ (m_ok0 t5) (s263_31 (s257_220 ?_))
      obtain ⟨r1, r2, r3⟩ := mf_z (N := m_app T (t_rf 0)) (cs := t_rf 0) hA hk (mz_uc b1 y2 (fun b j hb => by have := uc_b hb; rw [m_app_ne (by omega) (by omega), t2 b j (by omega)])) (mpv_fr t1 (m_app_ne (by omega) (by omega)) (fun b j c1 c2 => m_app_ne (by omega) (by omega))) (mtq_app0 t5 (Nat.le_trans t_rf_len (by omega))) (fun b j hb => by
        have hb2 := mC2_b hb
        rw [m_app_ne (by omega) (by omega), t2 b j (by omega), fB b j (mC2_u hb (by omega))])
      exact hR _ r1 r2 (mEnd_tr hAE r3)
  · rw [gg, g3, g7, mText_eq (by omega)]
    intro hw
    omega
theorem mw_check {n p : Int} (h : mIn M n p) (hS : mRl M S) (hk : hOk k S) (K : ∀ M', mRl M' (fnR n S (rq_check (M 135) n p S)).2 → mtq M' (fnR n S (rq_check (M 135) n p S)).1 → mEnd M M' → Q (some (jI (M' 133 5))) M') : wp kc (d + 20) 219 17 [some (jR 133), none] [jI 11] M Q := by
  obtain ⟨c0, rfl, rfl, c3, c4, c5, c6⟩ := min_b h
  have tb := rT_b (g := M 135) (e := M 133 3) (c := 32) (p := M 133 7) (w := 0) c5
  rcases (show (rT (M 135) (M 133 3) 32 (M 133 7) 0).2 = 1 ∨ (rT (M 135) (M 133 3) 32 (M 133 7) 0).2 = 0 by omega) with et | et
  · have ea : rq_check (M 135) (M 133 3) (M 133 7) S = ((rT (M 135) (M 133 3) 32 (M 133 7) 0).1, 1, [], S) := by
      unfold rq_check
      rw [if_neg (by omega)]
    rw [ea] at K
    exact mw_arg (r := ((rT (M 135) (M 133 3) 32 (M 133 7) 0).1, 1, [], S)) ⟨by omega, by omega⟩ h hS hk (show 0 ≤ (rT (M 135) (M 133 3) 32 (M 133 7) 0).1 ∧ (rT (M 135) (M 133 3) 32 (M 133 7) 0).1 ≤ 6100 by omega) K (fun R h0 h1 => ma_proof hk.1 hS.1 c0 (fun _ N aN a7 => h0 N aN a7 rfl) (fun e => by omega) (fun e => by omega))
  · have ea : rq_check (M 135) (M 133 3) (M 133 7) S = ((rCk (M 135) (M 133 3) (M 133 7)).2.1, (rCk (M 135) (M 133 3) (M 133 7)).2.2, tCheck S.1 (rCk (M 135) (M 133 3) (M 133 7)).1, S) := by
      unfold rq_check
      rw [if_pos et]
    rw [ea] at K
    have pb : (rT (M 135) (M 133 3) 32 (M 133 7) 0).1 ≤ (rCk (M 135) (M 133 3) (M 133 7)).2.1 ∧ (rCk (M 135) (M 133 3) (M 133 7)).2.1 ≤ M 133 3 := rPf_bd _ _ tb.2.1
    refine mw_arg (r := ((rCk (M 135) (M 133 3) (M 133 7)).2.1, (rCk (M 135) (M 133 3) (M 133 7)).2.2, tCheck S.1 (rCk (M 135) (M 133 3) (M 133 7)).1, S)) ⟨by omega, by omega⟩ h hS hk (show 0 ≤ (rCk (M 135) (M 133 3) (M 133 7)).2.1 ∧ (rCk (M 135) (M 133 3) (M 133 7)).2.1 ≤ 6100 by omega) K (fun R h0 h1 => ma_proof hk.1 hS.1 c0 (fun e => by omega) (fun _ N aN a7 aw => h0 N aN a7 aw) (fun _ N aN a7 aw x1 => h1 N aN a7 aw (fun hN n5 n3 hn R' hR => ?_)))
    refine s257 ⟨⟨by omega, by omega⟩, fun h => by omega, fun h => by omega, fun h => by omega, fun h => by omega, fun h => by omega, fun h => by omega, fun h => by omega, fun h => by omega, fun h => by omega, fun h => by omega, fun h => by omega, fun _ => ?_, fun h => by omega, fun h => by omega, fun h => by omega, fun h => by omega, fun h => by omega, fun h => by omega, fun h => by omega, fun h => by omega, fun h => by omega, fun h => by omega, fun h => by omega, fun h => by omega, fun h => by omega, fun h => by omega, fun h => by omega, fun h => by omega, fun h => by omega, fun h => by omega, fun h => by omega, fun h => by omega, fun h => by omega, fun h => by omega, fun h => by omega, fun h => by omega, fun h => by omega, fun h => by omega, fun h => by omega, fun h => by omega, fun h => by omega, fun h => by omega, fun h => by omega, fun h => by omega, fun h => by omega, fun h => by omega⟩
    refine s379 ⟨⟨by omega, by omega⟩, fun h => by omega, fun h => by omega, fun h => by omega, fun h => by omega, fun h => by omega, fun h => by omega, fun _ => ?_, fun h => by omega, fun h => by omega, fun h => by omega, fun h => by omega, fun h => by omega, fun h => by omega, fun h => by omega, fun h => by omega, fun h => by omega, fun h => by omega, fun h => by omega, fun h => by omega, fun h => by omega⟩
    have hKl : ∀ x ∈ (rCk (M 135) (M 133 3) (M 133 7)).1, lnK x := rPf_K _ _ tb.2.1 aw
    have h1l : 1 ≤ (rCk (M 135) (M 133 3) (M 133 7)).1.length := rPf_1
    have rr : 5 * (offL (rCk (M 135) (M 133 3) (M 133 7)).1 (rCk (M 135) (M 133 3) (M 133 7)).1.length : Int) + 2 * ((rCk (M 135) (M 133 3) (M 133 7)).1.length : Nat) ≤ M 133 3 - (rT (M 135) (M 133 3) 32 (M 133 7) 0).1 := rPf_room _ _ tb.2.1 aw
    have hro : rooA (rCk (M 135) (M 133 3) (M 133 7)).1 := ⟨by omega, by omega⟩
    refine sp_sayCheck (d := d + 10) hk.1 hN.1 x1 hro h1l hKl (m_ok0 n5) (fun M' m1 => s379_164 (s257_306 ?_))
    obtain ⟨r1, r2, r3⟩ := mf_wr hN hk n5 (Nat.le_trans (tCk_len (tCkE_len) _ _) (by omega)) m1
    exact hR _ r1 r2 r3
theorem mw_open {n p : Int} (h : mIn M n p) (hS : mRl M S) (hk : hOk k S) (K : ∀ M', mRl M' (fnR n S (rq_open (M 135) n p S)).2 → mtq M' (fnR n S (rq_open (M 135) n p S)).1 → mEnd M M' → Q (some (jI (M' 133 5))) M') : wp kc (d + 20) 219 17 [some (jR 133), none] [jI 38] M Q := by
  obtain ⟨c0, rfl, rfl, c3, c4, c5, c6⟩ := min_b h
  have mb := rBM_0 (g := M 135) (n := M 133 3) (p := M 133 7) (w := 0) c5
  refine mw_arg (r := rq_open (M 135) (M 133 3) (M 133 7) S) ⟨by omega, by omega⟩ h hS hk (show 0 ≤ (rBM (M 135) (M 133 3) (M 133 7) 0).1 + (rBM (M 135) (M 133 3) (M 133 7) 0).2.1 ∧ (rBM (M 135) (M 133 3) (M 133 7) 0).1 + (rBM (M 135) (M 133 3) (M 133 7) 0).2.1 ≤ 6100 by omega) K (fun R h0 h1 => ma_name (by omega) c0 h0 (fun N aN a7 aw x1 x2 => h1 N aN a7 aw (fun hN n5 n3 hn R' hR => ?_)))
  refine s257 ⟨⟨by omega, by omega⟩, fun h => by omega, fun h => by omega, fun h => by omega, fun h => by omega, fun h => by omega, fun h => by omega, fun h => by omega, fun h => by omega, fun h => by omega, fun h => by omega, fun h => by omega, fun h => by omega, fun h => by omega, fun h => by omega, fun h => by omega, fun h => by omega, fun h => by omega, fun h => by omega, fun h => by omega, fun h => by omega, fun h => by omega, fun h => by omega, fun h => by omega, fun h => by omega, fun h => by omega, fun h => by omega, fun h => by omega, fun h => by omega, fun h => by omega, fun h => by omega, fun h => by omega, fun h => by omega, fun h => by omega, fun h => by omega, fun h => by omega, fun h => by omega, fun h => by omega, fun h => by omega, fun _ => ?_, fun h => by omega, fun h => by omega, fun h => by omega, fun h => by omega, fun h => by omega, fun h => by omega, fun h => by omega⟩
  have hop : N 133 96 = S.2.2.2.1 := hN.2.2.2.1
  have ag : ∀ j, N 135 j = (M 135) j := fun j => aN 135 j (by omega) (by omega)
  rcases hk.2.2.2.2.2.1 with eo | eo
  · have ea : (rq_open (M 135) (M 133 3) (M 133 7) S).2.2 = (wls 1936225652, S) := by
      unfold rq_open bkS
      rw [if_pos eo]
    rw [ea] at hR
    exact m_shut hN hk n5 eo (fun M1 m1 m2 m3 => s257_298 (hR M1 m1 m2 m3))
  · skip
    have hl1 := mb.2.2.2.2.2 aw
    have hsn : mnm N (stN (M 135) (M 133 3) (M 133 7)) := m_nm ag x1 x2 (by omega) ⟨by omega, by omega⟩ (by omega)
    have hnm : nm_ok (stN (M 135) (M 133 3) (M 133 7)) := nmO_ok c0.2.2.2 (by omega) ⟨by omega, by omega⟩ mb.2.2.2.1
    have hM := hk.2.2.2.2.2.2.2.1 eo
    have hb := hk.2.2.2.2.2.2.1
    have ef : bFd S.2.2.2.2.1 (stN (M 135) (M 133 3) (M 133 7)) (S.2.2.2.2.1 (bRt S.2.2.2.2.1)).toNat 0 = opF (M 135) (M 133 3) (M 133 7) S := rfl
    refine s364 ⟨⟨by omega, by omega⟩, fun _ => ⟨⟨by omega, by omega⟩, fun h => by omega, fun h => by omega, fun h => by omega, fun h => by omega, fun _ => ?_, fun h => by omega, fun h => by omega, fun h => by omega, fun h => by omega, fun h => by omega, fun h => by omega⟩, fun h => by omega⟩
    refine sp_sayOpen (d := d + 7) hsn hnm hN.2.2.2.2.1 hb hM hN.2.1 (m_ok0 n5) (fun hlt => s364_92 (s257_298 ?_)) (fun hge T t1 t2 t3 t4 t5 => s364_92 (s257_298 ?_))
    · rw [ef] at hlt
      have et : (rq_open (M 135) (M 133 3) (M 133 7) S).2.2 = (t_no 1851878757, S) := by
        unfold rq_open bkS
        rw [if_neg (by omega), if_pos hlt]
      rw [et] at hR
      obtain ⟨r1, r2, r3⟩ := mf_app (cs := t_no 1851878757) hN hk n5 (Nat.le_trans t_no_len (by omega))
      exact hR _ r1 r2 r3
    · rw [ef] at hge t1
      have et : (rq_open (M 135) (M 133 3) (M 133 7) S).2.2 = (t_ok, (bZ S.2.2.2.2.1 (opF (M 135) (M 133 3) (M 133 7) S), pv_new S.2.1, S.2.2)) := by
        unfold rq_open bkS
        rw [if_neg (by omega), if_neg (by omega)]
      rw [et] at hR
      obtain ⟨r1, r2, r3⟩ := mf_z (cs := t_ok) hN hk t1 t4 (mtq_out n5 (by decide) (t5 133 5 (by omega) (by omega) (by omega) (fun x => by have := uc_b x; omega) (fun x => by have := uc_b x; omega) (by omega)) (fun j => t5 136 j (by omega) (by omega) (by omega) (fun x => by have := uc_b x; omega) (fun x => by have := uc_b x; omega) (by omega))) (fun b j hb => by
        have hb2 := mC2_b hb
        rw [t5 b j (by omega) (by omega) (by omega) (mC2_u hb (by omega)) (mC2_u hb (by omega)) (by omega), m_app_ne (by omega) (by omega)])
      exact hR _ r1 r2 r3
theorem mw_remove {n p : Int} (h : mIn M n p) (hS : mRl M S) (hk : hOk k S) (K : ∀ M', mRl M' (fnR n S (rq_remove (M 135) n p S)).2 → mtq M' (fnR n S (rq_remove (M 135) n p S)).1 → mEnd M M' → Q (some (jI (M' 133 5))) M') : wp kc (d + 20) 219 17 [some (jR 133), none] [jI 39] M Q := by
  obtain ⟨c0, rfl, rfl, c3, c4, c5, c6⟩ := min_b h
  have mb := rBM_0 (g := M 135) (n := M 133 3) (p := M 133 7) (w := 0) c5
  refine mw_arg (r := rq_remove (M 135) (M 133 3) (M 133 7) S) ⟨by omega, by omega⟩ h hS hk (show 0 ≤ (rBM (M 135) (M 133 3) (M 133 7) 0).1 + (rBM (M 135) (M 133 3) (M 133 7) 0).2.1 ∧ (rBM (M 135) (M 133 3) (M 133 7) 0).1 + (rBM (M 135) (M 133 3) (M 133 7) 0).2.1 ≤ 6100 by omega) K (fun R h0 h1 => ma_name (by omega) c0 h0 (fun N aN a7 aw x1 x2 => h1 N aN a7 aw (fun hN n5 n3 hn R' hR => ?_)))
  refine s257 ⟨⟨by omega, by omega⟩, fun h => by omega, fun h => by omega, fun h => by omega, fun h => by omega, fun h => by omega, fun h => by omega, fun h => by omega, fun h => by omega, fun h => by omega, fun h => by omega, fun h => by omega, fun h => by omega, fun h => by omega, fun h => by omega, fun h => by omega, fun h => by omega, fun h => by omega, fun h => by omega, fun h => by omega, fun h => by omega, fun h => by omega, fun h => by omega, fun h => by omega, fun h => by omega, fun h => by omega, fun h => by omega, fun h => by omega, fun h => by omega, fun h => by omega, fun h => by omega, fun h => by omega, fun h => by omega, fun h => by omega, fun h => by omega, fun h => by omega, fun h => by omega, fun h => by omega, fun h => by omega, fun h => by omega, fun _ => ?_, fun h => by omega, fun h => by omega, fun h => by omega, fun h => by omega, fun h => by omega, fun h => by omega⟩
  have hop : N 133 96 = S.2.2.2.1 := hN.2.2.2.1
  have ag : ∀ j, N 135 j = (M 135) j := fun j => aN 135 j (by omega) (by omega)
  rcases hk.2.2.2.2.2.1 with eo | eo
  · have ea : (rq_remove (M 135) (M 133 3) (M 133 7) S).2.2 = (wls 1936225652, S) := by
      unfold rq_remove bkS
      rw [if_pos eo]
    rw [ea] at hR
    exact m_shut hN hk n5 eo (fun M1 m1 m2 m3 => s257_298 (hR M1 m1 m2 m3))
  · skip
    have hl1 := mb.2.2.2.2.2 aw
    have hsn : mnm N (stN (M 135) (M 133 3) (M 133 7)) := m_nm ag x1 x2 (by omega) ⟨by omega, by omega⟩ (by omega)
    have hnm : nm_ok (stN (M 135) (M 133 3) (M 133 7)) := nmO_ok c0.2.2.2 (by omega) ⟨by omega, by omega⟩ mb.2.2.2.1
    have hM := hk.2.2.2.2.2.2.2.1 eo
    have hb := hk.2.2.2.2.2.2.1
    have ef : bFd S.2.2.2.2.1 (stN (M 135) (M 133 3) (M 133 7)) (S.2.2.2.2.1 (bRt S.2.2.2.2.1)).toNat 0 = opF (M 135) (M 133 3) (M 133 7) S := rfl
    have hfb := bFd_b (g := S.2.2.2.2.1) (nm := (stN (M 135) (M 133 3) (M 133 7))) (u := (S.2.2.2.2.1 (bRt S.2.2.2.2.1)).toNat) (i := 0)
    have hrb := bRt_b (g := S.2.2.2.2.1)
    have h00 := hb (bRt S.2.2.2.2.1) (by omega) (by omega)
    refine s364 ⟨⟨by omega, by omega⟩, fun _ => ⟨⟨by omega, by omega⟩, fun h => by omega, fun h => by omega, fun h => by omega, fun h => by omega, fun h => by omega, fun _ => ?_, fun h => by omega, fun h => by omega, fun h => by omega, fun h => by omega, fun h => by omega⟩, fun h => by omega⟩
    refine sp_sayRemove (d := d + 12) hsn hnm hN.2.2.2.2.1 hb hM.1 (bMd_H hM) (m_ok0 n5) (fun hlt => s364_99 (s257_298 ?_)) (fun hge T t1 t2 t3 t4 t5 t6 t7 => s364_99 (s257_298 ?_))
    · rw [ef] at hlt
      have et : (rq_remove (M 135) (M 133 3) (M 133 7) S).2.2 = (t_no 1851878757, S) := by
        unfold rq_remove bkS
        rw [if_neg (by omega), if_pos hlt]
      rw [et] at hR
      obtain ⟨r1, r2, r3⟩ := mf_app (cs := t_no 1851878757) hN hk n5 (Nat.le_trans t_no_len (by omega))
      exact hR _ r1 r2 r3
    · rw [ef] at hge t1 hfb
      have et : (rq_remove (M 135) (M 133 3) (M 133 7) S).2.2 = (t_ok, (S.1, S.2.1, S.2.2.1, S.2.2.2.1, bCut S.2.2.2.2.1 (rtD S.2.2.2.2.1 (opF (M 135) (M 133 3) (M 133 7) S) 0 0), wLog S.2.2.2.2.1 (rtD S.2.2.2.2.1 (opF (M 135) (M 133 3) (M 133 7) S) 0 0))) := by
        unfold rq_remove bkS
        rw [if_neg (by omega), if_neg (by omega)]
      rw [et] at hR
      have hw := rm_mlg (o := opF (M 135) (M 133 3) (M 133 7) S) hM hb ⟨hge, by omega⟩ t2 t3 t4 t5 t6
      obtain ⟨r1, r2, r3⟩ := mf_bk (T := T) (cs := t_ok) hN hk n5 (by decide) (mtq_out n5 (by decide) (t7 133 5 (by omega) (by omega) (by omega)) (fun j => t7 136 j (by omega) (by omega) (by omega))) t1 hw ((t7 133 96 (by omega) (by omega) (by omega)).trans ((m_app_ne (by omega) (by omega)).trans hop)) (fun b j hb => by
        have hb2 : (b < 133 ∨ b = 134 ∨ (b = 133 ∧ (j = 0 ∨ j = 1 ∨ j = 80 ∨ j = 89))) ∨ (146 ≤ b ∧ b ≤ 187) := mB_b hb
        rw [t7 b j (by omega) (by omega) (by omega), m_app_ne (by omega) (by omega)])
      exact hR _ r1 r2 r3
theorem mw_keep {n p : Int} (h : mIn M n p) (hS : mRl M S) (hk : hOk k S) (K : ∀ M', mRl M' (fnR n S (rq_keep (M 135) n p S)).2 → mtq M' (fnR n S (rq_keep (M 135) n p S)).1 → mEnd M M' → Q (some (jI (M' 133 5))) M') : wp kc (d + 20) 219 17 [some (jR 133), none] [jI 37] M Q := by
  obtain ⟨c0, rfl, rfl, c3, c4, c5, c6⟩ := min_b h
  have mb := rBM_0 (g := M 135) (n := M 133 3) (p := M 133 7) (w := 0) c5
  refine mw_arg (r := rq_keep (M 135) (M 133 3) (M 133 7) S) ⟨by omega, by omega⟩ h hS hk (show 0 ≤ (rBM (M 135) (M 133 3) (M 133 7) 0).1 + (rBM (M 135) (M 133 3) (M 133 7) 0).2.1 ∧ (rBM (M 135) (M 133 3) (M 133 7) 0).1 + (rBM (M 135) (M 133 3) (M 133 7) 0).2.1 ≤ 6100 by omega) K (fun R h0 h1 => ma_name (by omega) c0 h0 (fun N aN a7 aw x1 x2 => h1 N aN a7 aw (fun hN n5 n3 hn R' hR => ?_)))
  refine s257 ⟨⟨by omega, by omega⟩, fun h => by omega, fun h => by omega, fun h => by omega, fun h => by omega, fun h => by omega, fun h => by omega, fun h => by omega, fun h => by omega, fun h => by omega, fun h => by omega, fun h => by omega, fun h => by omega, fun h => by omega, fun h => by omega, fun h => by omega, fun h => by omega, fun h => by omega, fun h => by omega, fun h => by omega, fun h => by omega, fun h => by omega, fun h => by omega, fun h => by omega, fun h => by omega, fun h => by omega, fun h => by omega, fun h => by omega, fun h => by omega, fun h => by omega, fun h => by omega, fun h => by omega, fun h => by omega, fun h => by omega, fun h => by omega, fun h => by omega, fun h => by omega, fun h => by omega, fun _ => ?_, fun h => by omega, fun h => by omega, fun h => by omega, fun h => by omega, fun h => by omega, fun h => by omega, fun h => by omega, fun h => by omega⟩
  have hop : N 133 96 = S.2.2.2.1 := hN.2.2.2.1
  have ag : ∀ j, N 135 j = (M 135) j := fun j => aN 135 j (by omega) (by omega)
  rcases hk.2.2.2.2.2.1 with eo | eo
  · have ea : (rq_keep (M 135) (M 133 3) (M 133 7) S).2.2 = (wls 1936225652, S) := by
      unfold rq_keep bkS
      rw [if_pos eo]
    rw [ea] at hR
    exact m_shut hN hk n5 eo (fun M1 m1 m2 m3 => s257_298 (hR M1 m1 m2 m3))
  · skip
    have hl1 := mb.2.2.2.2.2 aw
    have hsn : mnm N (stN (M 135) (M 133 3) (M 133 7)) := m_nm ag x1 x2 (by omega) ⟨by omega, by omega⟩ (by omega)
    have hnm : nm_ok (stN (M 135) (M 133 3) (M 133 7)) := nmO_ok c0.2.2.2 (by omega) ⟨by omega, by omega⟩ mb.2.2.2.1
    have hM := hk.2.2.2.2.2.2.2.1 eo
    have hb := hk.2.2.2.2.2.2.1
    have hla : ∀ c ∈ (stN (M 135) (M 133 3) (M 133 7)), 97 ≤ c ∧ c ≤ 122 := stN_l
    refine s364 ⟨⟨by omega, by omega⟩, fun _ => ⟨⟨by omega, by omega⟩, fun h => by omega, fun h => by omega, fun h => by omega, fun _ => ?_, fun h => by omega, fun h => by omega, fun h => by omega, fun h => by omega, fun h => by omega, fun h => by omega, fun h => by omega⟩, fun h => by omega⟩
    refine sp_keeps (d := d + 11) ⟨by omega, by omega⟩ hN.1 hk.1 hsn hnm (fun c hc => by have := hla c hc; omega) hN.2.2.2.2.1 hb hM.1 (bMd_H hM) ⟨by omega, by omega⟩ (fun hf T t1 t2 => s364_74 ?_) (fun g1 g2 T t1 t2 t3 t4 t5 t6 t7 t8 => s364_74 ?_)
    · have et : (rq_keep (M 135) (M 133 3) (M 133 7) S).2.2 = (t_rf 4, S) := by
        unfold rq_keep bkS
        rw [if_neg (by omega), if_pos (show kpF S.2.2.2.2.1 (stN (M 135) (M 133 3) (M 133 7)) S.1 from hf)]
      rw [et] at hR
      have hT : mRl T S := mRl_fr hN hk (fun b j hb => t1 b j (by have := mCl_b hb; omega))
      have T5 : T 133 5 = 0 := (t1 133 5 (by omega)).trans n5
      refine ⟨⟨by omega, by omega⟩, sp_sayRefusal (d := d + 12) (by decide) (m_ok0 T5) (s364_85 (s257_298 ?_))⟩
      obtain ⟨r1, r2, r3⟩ := mf_app (cs := t_rf 4) hT hk T5 (Nat.le_trans t_rf_len (by omega))
      exact hR _ r1 r2 (mEnd_tr (fun b j hb => t1 b j (by omega)) r3)
    · have hnf : ¬ kpF S.2.2.2.2.1 (stN (M 135) (M 133 3) (M 133 7)) S.1 := by
        unfold kpF
        omega
      have et : (rq_keep (M 135) (M 133 3) (M 133 7) S).2.2 = (t_ok, (S.1, S.2.1, S.2.2.1, S.2.2.2.1, bCut S.2.2.2.2.1 (kpD S.2.2.2.2.1 (stN (M 135) (M 133 3) (M 133 7)) S.1), wLog S.2.2.2.2.1 (kpD S.2.2.2.2.1 (stN (M 135) (M 133 3) (M 133 7)) S.1))) := by
        unfold rq_keep bkS
        rw [if_neg (by omega), if_neg hnf]
      rw [et] at hR
      have T5 : T 133 5 = 0 := (t7 133 5 (by omega) (by omega) (by omega) (by omega)).trans n5
      have hw := kp_mlg hM hb hk.1 hnm.1 hnm.2.1 hla hnf t2 t3 t4 t5 t6
      have e0 : t_rf 0 = t_ok := by decide +kernel
      refine ⟨⟨by omega, by omega⟩, sp_sayRefusal (d := d + 12) (by decide) (m_ok0 T5) (s364_85 (s257_298 ?_))⟩
      show R' none (m_app T (t_rf 0))
      rw [e0]
      obtain ⟨r1, r2, r3⟩ := mf_bk (T := m_app T t_ok) (cs := t_ok) hN hk n5 (by decide) (mtq_app0 T5 (by decide)) (mbk_fr t1 (fun j => m_app_ne (by omega) (by omega))) (mlg_fr hw (fun b j hb => m_app_ne (by omega) (by omega))) ((m_app_ne (by omega) (by omega)).trans ((t7 133 96 (by omega) (by omega) (by omega) (by omega)).trans hop)) (fun b j hb => by
        have hb2 : (b < 133 ∨ b = 134 ∨ (b = 133 ∧ (j = 0 ∨ j = 1 ∨ j = 80 ∨ j = 89))) ∨ (146 ≤ b ∧ b ≤ 187) := mB_b hb
        rw [m_app_ne (by omega) (by omega), t7 b j (by omega) (by omega) (by omega) (by omega)])
      exact hR _ r1 r2 r3
theorem mw_set {n p : Int} (h : mIn M n p) (hS : mRl M S) (hk : hOk k S) (K : ∀ M', mRl M' (fnR n S (rq_set (M 135) n p S)).2 → mtq M' (fnR n S (rq_set (M 135) n p S)).1 → mEnd M M' → Q (some (jI (M' 133 5))) M') : wp kc (d + 20) 219 17 [some (jR 133), none] [jI 34] M Q := by
  obtain ⟨c0, rfl, rfl, c3, c4, c5, c6⟩ := min_b h
  have mb := rBM_0 (g := M 135) (n := M 133 3) (p := M 133 7) (w := 0) c5
  have sb := rBN_b (g := M 135) (e := M 133 3) (m := 3) (p := (rBM (M 135) (M 133 3) (M 133 7) 0).1 + (rBM (M 135) (M 133 3) (M 133 7) 0).2.1) (w := (rBM (M 135) (M 133 3) (M 133 7) 0).2.2) (by omega) (by omega)
  have er : rBN (M 135) (M 133 3) 3 ((rBM (M 135) (M 133 3) (M 133 7) 0).1 + (rBM (M 135) (M 133 3) (M 133 7) 0).2.1) (rBM (M 135) (M 133 3) (M 133 7) 0).2.2 = rSt (M 135) (M 133 3) (M 133 7) := rfl
  rw [er] at sb
  have e10 := e3_10
  refine mw_arg (r := rq_set (M 135) (M 133 3) (M 133 7) S) ⟨by omega, by omega⟩ h hS hk (show 0 ≤ (rSt (M 135) (M 133 3) (M 133 7)).2.1 ∧ (rSt (M 135) (M 133 3) (M 133 7)).2.1 ≤ 6100 by omega) K (fun R h0 h1 => ma_set c0 h0 (fun N aN a7 aw x1 x2 x3 => h1 N aN a7 aw (fun hN n5 n3 hn R' hR => ?_)))
  refine s257 ⟨⟨by omega, by omega⟩, fun h => by omega, fun h => by omega, fun h => by omega, fun h => by omega, fun h => by omega, fun h => by omega, fun h => by omega, fun h => by omega, fun h => by omega, fun h => by omega, fun h => by omega, fun h => by omega, fun h => by omega, fun h => by omega, fun h => by omega, fun h => by omega, fun h => by omega, fun h => by omega, fun h => by omega, fun h => by omega, fun h => by omega, fun h => by omega, fun h => by omega, fun h => by omega, fun h => by omega, fun h => by omega, fun h => by omega, fun h => by omega, fun h => by omega, fun h => by omega, fun h => by omega, fun h => by omega, fun h => by omega, fun h => by omega, fun _ => ?_, fun h => by omega, fun h => by omega, fun h => by omega, fun h => by omega, fun h => by omega, fun h => by omega, fun h => by omega, fun h => by omega, fun h => by omega, fun h => by omega, fun h => by omega⟩
  have hop : N 133 96 = S.2.2.2.1 := hN.2.2.2.1
  have ag : ∀ j, N 135 j = (M 135) j := fun j => aN 135 j (by omega) (by omega)
  rcases hk.2.2.2.2.2.1 with eo | eo
  · have ea : (rq_set (M 135) (M 133 3) (M 133 7) S).2.2 = (wls 1936225652, S) := by
      unfold rq_set
      rw [if_pos eo, if_pos eo]
    rw [ea] at hR
    exact m_shut hN hk n5 eo (fun M1 m1 m2 m3 => s257_298 (hR M1 m1 m2 m3))
  · have aw2 : (rBM (M 135) (M 133 3) (M 133 7) 0).2.2 = 0 := rBN_wz (m := 3) (p := (rBM (M 135) (M 133 3) (M 133 7) 0).1 + (rBM (M 135) (M 133 3) (M 133 7) 0).2.1) (g := M 135) (n := M 133 3) aw mb.2.2.2.2.1
    have hl1 := mb.2.2.2.2.2 aw2
    have hsn : mnm N (stN (M 135) (M 133 3) (M 133 7)) := m_nm ag x1 x2 (by omega) ⟨by omega, by omega⟩ (by omega)
    have hnm : nm_ok (stN (M 135) (M 133 3) (M 133 7)) := nmO_ok c0.2.2.2 (by omega) ⟨by omega, by omega⟩ mb.2.2.2.1
    have hM := hk.2.2.2.2.2.2.2.1 eo
    have hb := hk.2.2.2.2.2.2.1
    have et : (rq_set (M 135) (M 133 3) (M 133 7) S).2.2 = (stW (stP S.2.2.2.2.1 (stN (M 135) (M 133 3) (M 133 7)) S.2.2.1 (rSt (M 135) (M 133 3) (M 133 7)).1).1, (S.1, S.2.1, (stP S.2.2.2.2.1 (stN (M 135) (M 133 3) (M 133 7)) S.2.2.1 (rSt (M 135) (M 133 3) (M 133 7)).1).2, S.2.2.2)) := by
      unfold rq_set
      rw [if_neg (by omega), if_neg (by omega)]
    rw [et] at hR
    refine s364 ⟨⟨by omega, by omega⟩, fun _ => ⟨⟨by omega, by omega⟩, fun _ => ?_, fun h => by omega, fun h => by omega, fun h => by omega, fun h => by omega, fun h => by omega, fun h => by omega, fun h => by omega, fun h => by omega, fun h => by omega, fun h => by omega⟩, fun h => by omega⟩
    rw [x3]
    refine sp_saySetItem (d := d + 8) hsn hnm hN.2.2.2.2.1 hb hM hN.2.2.1 hk.2.2.2.2.1 (m_ok0 n5) ⟨by omega, by omega⟩ (fun T t1 t2 => s364_117 (s257_298 ?_))
    have h6 := hk.2.2.2.2.1.2.1
    have f : ∀ b j, b ≠ 136 → ¬ (b = 133 ∧ j = 5) → ¬ (b = 133 ∧ (j = 3 ∨ (7 ≤ j ∧ j ≤ 23) ∨ j = 89)) → b ≠ 135 → b ≠ 137 → ¬ (182 ≤ b ∧ b ≤ 187) → ¬ ucell (4 + (S.2.2.1.length : Int)) b j → T b j = N b j := fun b j b1 b2 b3 b4 b5 b6 b7 => by rw [t2 b j b3 b4 b5 b6 b7, m_app_ne b2 b1]
    obtain ⟨h1, h2, h3, h4, h5, h7⟩ := hN
    refine hR T ⟨mz_uc h1 hk.1 (fun b j hb => ?_), mpv_fr h2 (f 133 80 (by omega) (by omega) (by omega) (by omega) (by omega) (by omega) (fun x => by have := uc_b x; omega)) (fun b j b1 b2 => f b j (by omega) (by omega) (by omega) (by omega) (by omega) (by omega) (fun x => by have := uc_b x; omega)), t1, (f 133 96 (by omega) (by omega) (by omega) (by omega) (by omega) (by omega) (fun x => by have := uc_b x; omega)).trans h4, mbk_fr h5 (fun j => f 188 j (by omega) (by omega) (by omega) (by omega) (by omega) (by omega) (fun x => by have := uc_b x; omega)), mlg_fr h7 (fun b j hb => f b j (by omega) (by omega) (by omega) (by omega) (by omega) (by omega) (fun x => by have := uc_b x; omega))⟩ (mtq_out n5 (Nat.le_trans stW_len (by omega)) (t2 133 5 (by omega) (by omega) (by omega) (by omega) (fun x => by have := uc_b x; omega)) (fun j => t2 136 j (by omega) (by omega) (by omega) (by omega) (fun x => by have := uc_b x; omega))) (fun b j hb => f b j (by omega) (by omega) (by omega) (by omega) (by omega) (by omega) (fun x => by have := uc_b x; omega))
    have := uc_b hb
    exact f b j (by omega) (by omega) (by omega) (by omega) (by omega) (by omega) (uc_n hb (by omega))
theorem mw_cut {n p : Int} (h : mIn M n p) (hS : mRl M S) (hk : hOk k S) (K : ∀ M', mRl M' (fnR n S (rq_cut (M 135) n p S)).2 → mtq M' (fnR n S (rq_cut (M 135) n p S)).1 → mEnd M M' → Q (some (jI (M' 133 5))) M') : wp kc (d + 20) 219 17 [some (jR 133), none] [jI 41] M Q := by
  obtain ⟨c0, rfl, rfl, c3, c4, c5, c6⟩ := min_b h
  have nb := rBN_b (g := M 135) (e := M 133 3) (m := 3) (p := M 133 7) (w := 0) (by omega) c5
  have e10 := e3_10
  refine mw_arg (r := rq_cut (M 135) (M 133 3) (M 133 7) S) ⟨by omega, by omega⟩ h hS hk (show 0 ≤ (rBN (M 135) (M 133 3) 3 (M 133 7) 0).2.1 ∧ (rBN (M 135) (M 133 3) 3 (M 133 7) 0).2.1 ≤ 6100 by omega) K (fun R h0 h1 => ma_n3 (by omega) c0 h0 (fun N aN a7 aw x1 => h1 N aN a7 aw (fun hN n5 n3 hn R' hR => ?_)))
  refine s257 ⟨⟨by omega, by omega⟩, fun h => by omega, fun h => by omega, fun h => by omega, fun h => by omega, fun h => by omega, fun h => by omega, fun h => by omega, fun h => by omega, fun h => by omega, fun h => by omega, fun h => by omega, fun h => by omega, fun h => by omega, fun h => by omega, fun h => by omega, fun h => by omega, fun h => by omega, fun h => by omega, fun h => by omega, fun h => by omega, fun h => by omega, fun h => by omega, fun h => by omega, fun h => by omega, fun h => by omega, fun h => by omega, fun h => by omega, fun h => by omega, fun h => by omega, fun h => by omega, fun h => by omega, fun h => by omega, fun h => by omega, fun h => by omega, fun h => by omega, fun h => by omega, fun h => by omega, fun h => by omega, fun h => by omega, fun h => by omega, fun h => by omega, fun _ => ?_, fun h => by omega, fun h => by omega, fun h => by omega, fun h => by omega⟩
  have hop : N 133 96 = S.2.2.2.1 := hN.2.2.2.1
  have ho : N 133 96 = 0 ∨ N 133 96 = 1 := by rw [hop]; exact hk.2.2.2.2.2.1
  rw [x1]
  refine sp_sayCut (d := d + 12) hN.2.2.2.2.1 hN.2.2.2.2.2 hk.2.2.2.2.2.2.2.2 ho (m_ok0 n5) (n := (rBN (M 135) (M 133 3) 3 (M 133 7) 0).1) ⟨by omega, by omega⟩ (fun hc => s257_283 ?_) (fun hc T t1 t2 t3 => s257_283 ?_)
  · have hn : ¬ ctC S (rBN (M 135) (M 133 3) 3 (M 133 7) 0).1 := fun x => hc (by rw [hop]; exact x)
    have et : (rq_cut (M 135) (M 133 3) (M 133 7) S).2.2 = (t_no (wrd 41), S) := by
      unfold rq_cut
      rw [if_neg hn]
    rw [et] at hR
    obtain ⟨r1, r2, r3⟩ := mf_app (cs := t_no (wrd 41)) hN hk n5 (Nat.le_trans t_no_len (by omega))
    exact hR _ r1 r2 r3
  · have hn : ctC S (rBN (M 135) (M 133 3) 3 (M 133 7) 0).1 := by
      rw [hop] at hc
      exact hc
    have et : (rq_cut (M 135) (M 133 3) (M 133 7) S).2.2 = (t_ok, (S.1, S.2.1, S.2.2.1, 0, bCut S.2.2.2.2.1 (S.2.2.2.2.2.drop (rBN (M 135) (M 133 3) 3 (M 133 7) 0).1.toNat), S.2.2.2.2.2)) := by
      unfold rq_cut
      rw [if_pos hn]
    rw [et] at hR
    obtain ⟨r1, r2, r3⟩ := mf_bk (T := T) (cs := t_ok) hN hk n5 (by decide) (mtq_out n5 (by decide) (t3 133 5 (by omega) (by omega)) (fun j => t3 136 j (by omega) (by omega))) t1 (mlg_fr hN.2.2.2.2.2 (fun b j hb => by rw [t3 b j (by omega) (by omega), m_app_ne (by omega) (by omega)])) t2 (fun b j hb => by
      have hb2 : (b < 133 ∨ b = 134 ∨ (b = 133 ∧ (j = 0 ∨ j = 1 ∨ j = 80 ∨ j = 89))) ∨ (146 ≤ b ∧ b ≤ 187) := mB_b hb
      rw [t3 b j (by omega) (by omega), m_app_ne (by omega) (by omega)])
    exact hR _ r1 r2 r3
theorem mw_submit {n p : Int} (h : mIn M n p) (hS : mRl M S) (hk : hOk k S) (K : ∀ M', mRl M' (fnR n S (rq_submit (M 135) n p S)).2 → mtq M' (fnR n S (rq_submit (M 135) n p S)).1 → mEnd M M' → Q (some (jI (M' 133 5))) M') : wp kc (d + 20) 219 17 [some (jR 133), none] [jI 35] M Q := by
  obtain ⟨c0, rfl, rfl, c3, c4, c5, c6⟩ := min_b h
  have b1 := rBN_b (g := M 135) (e := M 133 3) (m := 1) (p := M 133 7) (w := 0) (by omega) c5
  have g1 : rBN (M 135) (M 133 3) 1 (M 133 7) 0 = sbA1 (M 135) (M 133 3) (M 133 7) := rfl
  rw [g1] at b1
  have b2 := rBM_0 (g := M 135) (n := M 133 3) (p := (sbA1 (M 135) (M 133 3) (M 133 7)).2.1) (w := (sbA1 (M 135) (M 133 3) (M 133 7)).2.2) b1.2.1
  have g2 : rBM (M 135) (M 133 3) (sbA1 (M 135) (M 133 3) (M 133 7)).2.1 (sbA1 (M 135) (M 133 3) (M 133 7)).2.2 = sbA2 (M 135) (M 133 3) (M 133 7) := rfl
  rw [g2] at b2
  have b3 := rBN_b (g := M 135) (e := M 133 3) (m := 3) (p := (sbA2 (M 135) (M 133 3) (M 133 7)).1 + (sbA2 (M 135) (M 133 3) (M 133 7)).2.1) (w := (sbA2 (M 135) (M 133 3) (M 133 7)).2.2) (by omega) (by omega)
  have g3 : rBN (M 135) (M 133 3) 3 ((sbA2 (M 135) (M 133 3) (M 133 7)).1 + (sbA2 (M 135) (M 133 3) (M 133 7)).2.1) (sbA2 (M 135) (M 133 3) (M 133 7)).2.2 = sbA3 (M 135) (M 133 3) (M 133 7) := rfl
  rw [g3] at b3
  have b4 := rBD_0 (g := M 135) (n := M 133 3) (p := (sbA3 (M 135) (M 133 3) (M 133 7)).2.1) (w := (sbA3 (M 135) (M 133 3) (M 133 7)).2.2) b3.2.1
  have g4 : rBD (M 135) (M 133 3) (sbA3 (M 135) (M 133 3) (M 133 7)).2.1 (sbA3 (M 135) (M 133 3) (M 133 7)).2.2 = sbA4 (M 135) (M 133 3) (M 133 7) := rfl
  rw [g4] at b4
  have e10 := e3_10
  have e11 := e1_10
  refine mw_arg (r := rq_submit (M 135) (M 133 3) (M 133 7) S) ⟨by omega, by omega⟩ h hS hk (show 0 ≤ (sbA4 (M 135) (M 133 3) (M 133 7)).1 + (sbA4 (M 135) (M 133 3) (M 133 7)).2.1 ∧ (sbA4 (M 135) (M 133 3) (M 133 7)).1 + (sbA4 (M 135) (M 133 3) (M 133 7)).2.1 ≤ 6100 by omega) K (fun R h0 h1 => ?_)
  have X : wc kc (d + 18) 250 [jR 133] M (fun v M1 => wp kc (d + 19) 225 374 [none, none] (v.toList ++ []) M1 R) := by
    refine sp_scanSubmit (d := d + 12) c0 (fun aw N aN a7 x1 x2 x3 x4 x5 x6 => s225_374 ⟨⟨by omega, by omega⟩, h1 N (mA_fr aN) a7 aw (fun hN n5 n3 hn R' hR => ?_)⟩) (fun aw N aN a7 => s225_374 ⟨⟨by omega, by omega⟩, h0 N (mA_fr aN) a7 aw⟩)
    refine s257 ⟨⟨by omega, by omega⟩, fun h => by omega, fun h => by omega, fun h => by omega, fun h => by omega, fun h => by omega, fun h => by omega, fun h => by omega, fun h => by omega, fun h => by omega, fun h => by omega, fun h => by omega, fun h => by omega, fun h => by omega, fun h => by omega, fun h => by omega, fun h => by omega, fun h => by omega, fun h => by omega, fun h => by omega, fun h => by omega, fun h => by omega, fun h => by omega, fun h => by omega, fun h => by omega, fun h => by omega, fun h => by omega, fun h => by omega, fun h => by omega, fun h => by omega, fun h => by omega, fun h => by omega, fun h => by omega, fun h => by omega, fun h => by omega, fun h => by omega, fun _ => ?_, fun h => by omega, fun h => by omega, fun h => by omega, fun h => by omega, fun h => by omega, fun h => by omega, fun h => by omega, fun h => by omega, fun h => by omega, fun h => by omega⟩
    have d4 := b4.2.2.2.2 aw
    have d3 := rBN_wz (g := M 135) (n := M 133 3) (m := 3) (p := (sbA2 (M 135) (M 133 3) (M 133 7)).1 + (sbA2 (M 135) (M 133 3) (M 133 7)).2.1) (w := (sbA2 (M 135) (M 133 3) (M 133 7)).2.2) d4.1 b2.2.2.2.2.1
    have l1 := b2.2.2.2.2.2 d3
    have ag : ∀ j, N 135 j = (M 135) j := fun j => aN 135 j (by omega) (by omega)
    have hsn : mnm N (nmO (M 135) (sbA2 (M 135) (M 133 3) (M 133 7)).1 (sbA2 (M 135) (M 133 3) (M 133 7)).2.1) := m_nm ag x2 x3 (by omega) ⟨by omega, by omega⟩ (by omega)
    have hnm : nm_ok (nmO (M 135) (sbA2 (M 135) (M 133 3) (M 133 7)).1 (sbA2 (M 135) (M 133 3) (M 133 7)).2.1) := nmO_ok c0.2.2.2 (by omega) ⟨by omega, by omega⟩ b2.2.2.2.1
    have hdg : mdg N (dgO (M 135) (sbA4 (M 135) (M 133 3) (M 133 7)).1 (sbA4 (M 135) (M 133 3) (M 133 7)).2.1) := by
      refine ⟨by rw [x6, dgO_len]; omega, by rw [x5]; omega, by rw [x5, dgO_len]; omega, fun y hy => ?_, fun j c hj => by rw [x5, ag]; exact dgO_get hj⟩
      obtain ⟨j, hj1, hj2⟩ := List.mem_map.mp hy
      have hj := List.mem_range.mp hj1
      have := d4.2 j (by omega)
      unfold isD at this
      omega
    rw [x1, x4]
    have et : (rq_submit (M 135) (M 133 3) (M 133 7) S).2.2 = (sbT (sbR (M 135) (M 133 3) (M 133 7) S.2.2.1).1, (S.1, S.2.1, (sbR (M 135) (M 133 3) (M 133 7) S.2.2.1).2, S.2.2.2)) := rfl
    rw [et] at hR
    refine sp_saySubmit (d := d + 12) hsn hnm hN.2.2.1 hk.2.2.2.2.1 hdg (m_ok0 n5) hN.1 hk.1 ⟨by omega, by omega⟩ (by omega) (fun T t1 t2 t3 => s257_265 ?_)
    have f : ∀ b j, b ≠ 136 → ¬ (b = 133 ∧ j = 5) → ¬ (146 ≤ b ∧ b ≤ 155) → ¬ (185 ≤ b ∧ b ≤ 187) → T b j = N b j := fun b j b1 b2 b3 b4 => by rw [t3 b j b3 b4, m_app_ne b2 b1]
    obtain ⟨h1, h2, h3, h4, h5, h7⟩ := hN
    exact hR T ⟨t2, mpv_fr h2 (f 133 80 (by omega) (by omega) (by omega) (by omega)) (fun b j b1 b2 => f b j (by omega) (by omega) (by omega) (by omega)), t1, (f 133 96 (by omega) (by omega) (by omega) (by omega)).trans h4, mbk_fr h5 (fun j => f 188 j (by omega) (by omega) (by omega) (by omega)), mlg_fr h7 (fun b j hb => f b j (by omega) (by omega) (by omega) (by omega))⟩ (mtq_out n5 (Nat.le_trans sbT_len (by omega)) (t3 133 5 (by omega) (by omega)) (fun j => t3 136 j (by omega) (by omega))) (fun b j hb => f b j (by omega) (by omega) (by omega) (by omega))
  exact s225 ⟨⟨by omega, by omega⟩, fun h => by omega, fun h => by omega, fun h => by omega, fun h => by omega, fun h => by omega, fun h => by omega, fun h => by omega, fun h => by omega, fun h => by omega, fun h => by omega, fun h => by omega, fun h => by omega, fun h => by omega, fun h => by omega, fun h => by omega, fun h => by omega, fun h => by omega, fun h => by omega, fun h => by omega, fun h => by omega, fun h => by omega, fun h => by omega, fun h => by omega, fun h => by omega, fun h => by omega, fun h => by omega, fun h => by omega, fun h => by omega, fun h => by omega, fun h => by omega, fun h => by omega, fun h => by omega, fun h => by omega, fun h => by omega, fun h => by omega, fun _ => X, fun h => by omega, fun h => by omega, fun h => by omega, fun h => by omega, fun h => by omega, fun h => by omega, fun h => by omega, fun h => by omega, fun h => by omega, fun h => by omega⟩
theorem mw_import {n p : Int} (hp6 : p = 6) (hn35 : n ≤ 3500) (h : mIn M n p) (hS : mRl M S) (hk : hOk k S) (K : ∀ M', mRl M' (fnR n S (rq_import (M 135) n p S)).2 → mtq M' (fnR n S (rq_import (M 135) n p S)).1 → mEnd M M' → Q (some (jI (M' 133 5))) M') : wp kc (d + 20) 219 17 [some (jR 133), none] [jI 44] M Q := by
  obtain ⟨c0, rfl, rfl, c3, c4, c5, c6⟩ := min_b h
  have tb := rT_b (g := M 135) (e := M 133 3) (c := 32) (p := M 133 7) (w := 0) c5
  have ob : (rT (M 135) (M 133 3) 32 (M 133 7) 0).1 ≤ (rIm (M 135) (M 133 3) (M 133 7)).2.1 ∧ (rIm (M 135) (M 133 3) (M 133 7)).2.1 ≤ M 133 3 ∧ 0 ≤ (rIm (M 135) (M 133 3) (M 133 7)).2.2.1 ∧ (rIm (M 135) (M 133 3) (M 133 7)).2.2.1 ≤ 1 := rBo_b tb.2.1
  have sb : (rT (M 135) (M 133 3) 32 (M 133 7) 0).1 ≤ (imA (M 135) (M 133 3) (M 133 7)).2.1 ∧ (imA (M 135) (M 133 3) (M 133 7)).2.1 ≤ M 133 3 ∧ 0 ≤ (imA (M 135) (M 133 3) (M 133 7)).2.2 ∧ (imA (M 135) (M 133 3) (M 133 7)).2.2 ≤ 1 ∧ 0 ≤ (imA (M 135) (M 133 3) (M 133 7)).1 ∧ (imA (M 135) (M 133 3) (M 133 7)).1 < 1000 := rBs_b tb.2.1
  have nb : (rIm (M 135) (M 133 3) (M 133 7)).2.1 ≤ (rIn (M 135) (M 133 3) (M 133 7)).2.1 ∧ (rIn (M 135) (M 133 3) (M 133 7)).2.1 ≤ M 133 3 ∧ 0 ≤ (rIn (M 135) (M 133 3) (M 133 7)).2.2 ∧ (rIn (M 135) (M 133 3) (M 133 7)).2.2 ≤ 1 ∧ 0 ≤ (rIn (M 135) (M 133 3) (M 133 7)).1 ∧ (rIn (M 135) (M 133 3) (M 133 7)).1 < ((10 ^ 6 : Nat) : Int) := rN_b (by omega) ob.2.1
  have e10 := e6_10
  refine mw_arg (r := rq_import (M 135) (M 133 3) (M 133 7) S) ⟨by omega, by omega⟩ h hS hk (show 0 ≤ (rIn (M 135) (M 133 3) (M 133 7)).2.1 ∧ (rIn (M 135) (M 133 3) (M 133 7)).2.1 ≤ 6100 by omega) K (fun R h0 h1 => ma_book c0 hn35 h0 (fun N aN a7 aw x1 x2 x3 x4 x5 => h1 N aN a7 aw (fun hN n5 n3 hn R' hR => ?_)))
  refine s257 ⟨⟨by omega, by omega⟩, fun h => by omega, fun h => by omega, fun h => by omega, fun h => by omega, fun h => by omega, fun h => by omega, fun h => by omega, fun h => by omega, fun h => by omega, fun h => by omega, fun h => by omega, fun h => by omega, fun h => by omega, fun h => by omega, fun h => by omega, fun h => by omega, fun h => by omega, fun h => by omega, fun h => by omega, fun h => by omega, fun h => by omega, fun h => by omega, fun h => by omega, fun h => by omega, fun h => by omega, fun h => by omega, fun h => by omega, fun h => by omega, fun h => by omega, fun h => by omega, fun h => by omega, fun h => by omega, fun h => by omega, fun h => by omega, fun h => by omega, fun h => by omega, fun h => by omega, fun h => by omega, fun h => by omega, fun h => by omega, fun h => by omega, fun h => by omega, fun h => by omega, fun h => by omega, fun _ => ?_, fun h => by omega⟩
  have hop : N 133 96 = S.2.2.2.1 := hN.2.2.2.1
  have ag : ∀ j, N 135 j = (M 135) j := fun j => aN 135 j (by omega) (by omega)
  rcases hk.2.2.2.2.2.1 with eo | eo
  · have ea : (rq_import (M 135) (M 133 3) (M 133 7) S).2.2 = (wls 1936225652, S) := by
      unfold rq_import bkS
      rw [if_pos eo]
    rw [ea] at hR
    exact m_shut hN hk n5 eo (fun M1 m1 m2 m3 => s257_298 (hR M1 m1 m2 m3))
  · have ew : (rIm (M 135) (M 133 3) (M 133 7)).2.2.1 = 0 := by
      have hx : (rIm (M 135) (M 133 3) (M 133 7)).2.2.1 = 0 ∨ (rIm (M 135) (M 133 3) (M 133 7)).2.2.1 = 1 := by omega
      rcases hx with hx | hx
      · exact hx
      · have e4 : (rIn (M 135) (M 133 3) (M 133 7)).2.2 = 0 := aw
        unfold rIn at e4
        rw [hx, rN_w] at e4
        cases e4
    have hI : bkI (M 135) (M 133 3) (rIm (M 135) (M 133 3) (M 133 7)).1 (imA (M 135) (M 133 3) (M 133 7)).2.1 := (rBo_I tb.2.1 ew).1
    have hlen := bkI_len hI sb.2.1
    have ht : (rT (M 135) (M 133 3) 32 (M 133 7) 0).1 = 7 := by
      rcases rT_i (g := M 135) (e := M 133 3) (c := 32) (p := M 133 7) with ⟨y, _⟩ | ⟨y, _⟩
      · rw [y, hp6]
        rfl
      · have w1 : rBo (M 135) (M 133 3) (M 133 7) 1 (z_new 1 1 1) = ([], M 133 7, 1, 0, z_new 1 1 1) := by
          have c1 : rC (M 135) (M 133 3) bsB (M 133 7) 1 = (-1, M 133 7, 1) := rfl
          unfold rBo
          rw [c1]
          dsimp only
          rw [rBN_w]
          exact rBk_w (show (1 : Int) ≠ 0 by decide)
        unfold rIm at ew
        rw [y] at ew
        dsimp only at ew
        rw [w1] at ew
        cases ew
    have et : (rq_import (M 135) (M 133 3) (M 133 7) S).2.2 = (imT (M 135) (M 133 3) (M 133 7) S, (S.1, S.2.1, S.2.2.1, S.2.2.2.1, imW (M 135) (M 133 3) (M 133 7) S)) := by
      unfold rq_import bkS
      rw [if_neg (by omega)]
    rw [et] at hR
    have ec : imC (M 135) (M 133 3) (M 133 7) = ckS 7 ((List.range ((rIm (M 135) (M 133 3) (M 133 7)).2.1 - 7).toNat).map (fun i : Nat => (M 135) (7 + (i : Int)))) := by
      unfold imC
      rw [ht]
    have hH := hk.2.2.2.2.2.2.2.1 eo
    refine s364 ⟨⟨by omega, by omega⟩, fun _ => ⟨⟨by omega, by omega⟩, fun h => by omega, fun h => by omega, fun h => by omega, fun h => by omega, fun h => by omega, fun h => by omega, fun h => by omega, fun h => by omega, fun h => by omega, fun h => by omega, fun _ => ?_⟩, fun h => by omega⟩
    refine sp_sayImport (d := d + 7) (g := M 135) (e := M 133 3) (E := (rIm (M 135) (M 133 3) (M 133 7)).1) (b := S.2.2.2.2.1) (W := S.2.2.2.2.2) (p0 := (imA (M 135) (M 133 3) (M 133 7)).2.1) (a := (imA (M 135) (M 133 3) (M 133 7)).1) (cf := (rIm (M 135) (M 133 3) (M 133 7)).2.1) (sk := (rIn (M 135) (M 133 3) (M 133 7)).1) ag n3 c0.2.2.2 (by omega) ⟨x1, x2, x3, x4⟩ ⟨⟨by omega, by omega⟩, ⟨by omega, by omega⟩⟩ (by omega) ⟨by omega, by omega⟩ x5 (by omega) hI hN.2.2.2.2.1 hH hk.2.2.2.2.2.2.1 hN.2.2.2.2.2 n5 (fun T b' W' m1 m2 m3 m4 m5 => s364_131 (s257_298 ?_))
    rw [← ec] at m1 m4
    have eW : imW (M 135) (M 133 3) (M 133 7) S = (b', W') := m1.symm
    rw [eW] at hR
    obtain ⟨r1, r2, r3⟩ := mf_bk (T := T) (cs := imT (M 135) (M 133 3) (M 133 7) S) hN hk n5 (Nat.le_trans tImp_len (by omega)) m4 m2 m3 ((m5 133 96 (by omega) (by omega) (by omega) (by omega) (by omega) (fun x => by have := uc_b x; omega)).trans hop) (fun b j hb => by
      have hb2 : (b < 133 ∨ b = 134 ∨ (b = 133 ∧ (j = 0 ∨ j = 1 ∨ j = 80 ∨ j = 89))) ∨ (146 ≤ b ∧ b ≤ 187) := mB_b hb
      exact m5 b j (by omega) (by omega) (by omega) (by omega) (by omega) (mB_u hb))
    exact hR _ r1 r2 r3
end MRG
