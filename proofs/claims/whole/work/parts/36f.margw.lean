/-! REQUESTS, the reference: puzzle, answers, play, with arguments. -/
section MRF
variable {kc : List va_E} {d : Nat} {M N : fx_M} {Q : Option fx_V → fx_M → Prop} {S : HS} {k : Nat}
theorem m_chg {v1 v2 r : Int} {Z' : PZ} {P : fx_M} {W : Prop} (hN : mRl N S) (hk : hOk k S) (n5 : N 133 5 = 0) (hr : 0 ≤ r ∧ r ≤ 5) (hv1 : 0 ≤ v1 ∧ v1 ≤ 3) (hv2 : v2 = (S.1.2.2.2.1.length : Int)) (h2 : v1 = 2 → v2 ≤ (Z'.2.2.2.1.length : Int)) (hz : mz P 0 Z') (ho : pz_ok Z') (hf : ufr2 0 N P) (hR : ∀ M1, mRl M1 (Z', vNew r S.2.1, S.2.2) → mtq M1 (tChg v1 v2 r Z') → mEnd N M1 → Q none M1) (hW : (((fx_in32 r)) ∧ (r ≠ 0 → ((fx_in32 r)) ∧ (r ≠ 0 → ((fx_in32 r)) ∧ (r ≠ 0 → wc kc (d + 17) 259 [jR 133, jI r] P (fun v M1 => wp kc (d + 18) 258 132 [none, none, none, none] (v.toList ++ []) M1 Q)) ∧ (r = 0 → ((fx_in32 v1)) ∧ (v1 ≠ 2 → wc kc (d + 17) 259 [jR 133, jI r] P (fun v M1 => wp kc (d + 18) 258 132 [none, none, none, none] (v.toList ++ []) M1 Q)) ∧ (v1 = 2 → wc kc (d + 17) 252 [jR 133, jL 491596309875, jI ((P 149 0) - v2)] P (fun v M1 => wp kc (d + 18) 258 124 [none, none, none, none] (v.toList ++ []) M1 Q)))) ∧ (r = 0 → ((fx_in32 v1)) ∧ (v1 ≠ 1 → ((fx_in32 r)) ∧ (r ≠ 0 → wc kc (d + 17) 259 [jR 133, jI r] P (fun v M1 => wp kc (d + 18) 258 132 [none, none, none, none] (v.toList ++ []) M1 Q)) ∧ (r = 0 → ((fx_in32 v1)) ∧ (v1 ≠ 2 → wc kc (d + 17) 259 [jR 133, jI r] P (fun v M1 => wp kc (d + 18) 258 132 [none, none, none, none] (v.toList ++ []) M1 Q)) ∧ (v1 = 2 → wc kc (d + 17) 252 [jR 133, jL 491596309875, jI ((P 149 0) - v2)] P (fun v M1 => wp kc (d + 18) 258 124 [none, none, none, none] (v.toList ++ []) M1 Q)))) ∧ (v1 = 1 → wc kc (d + 17) 221 [jI 1] P (fun v M1 => wp kc (d + 18) 258 93 [none, none, some (jI v2), none] (v.toList ++ [jR 133]) M1 Q)))) ∧ (r = 0 → wc kc (d + 17) 215 [jR 133] P (fun v M1 => wp kc (d + 18) 258 79 [some (jR 133), some (jI v1), some (jI v2), some (jI r)] (v.toList ++ []) M1 Q))) → W) : W := by
  have h12 := hk.1.2.2.2.2.2.2.1
  have h12' := ho.2.2.2.2.2.2.1
  have fP : ∀ b j, (mC2 b j ∨ (b = 133 ∧ (j = 5 ∨ j = 80)) ∨ (174 ≤ b ∧ b ≤ 181)) → P b j = N b j := fun b j hb => by
    have h1 : ¬ ucell 0 b j := by
      rcases hb with hb | hb | hb
      · exact mC2_u hb (by omega)
      · exact fun x => by have := uc_b x; omega
      · exact fun x => by have := uc_b x; omega
    have h3 : (b < 133 ∨ b = 134 ∨ (b = 133 ∧ (j = 0 ∨ j = 1 ∨ j = 5 ∨ j = 80 ∨ j = 89 ∨ j = 96 ∨ (99 ≤ j ∧ j ≤ 102)))) ∨ 138 ≤ b := by
      rcases hb with hb | hb | hb
      · have := mC2_b hb
        omega
      · omega
      · omega
    unfold ucell at h1
    exact hf b j (by omega) (by omega) (by omega) (by omega) (by omega) (by omega)
  have p5 : P 133 5 = 0 := (fP 133 5 (Or.inr (Or.inl (by omega)))).trans n5
  have hvP : mpv P S.2.1 := mpv_fr hN.2.1 (fP 133 80 (Or.inr (Or.inl (by omega)))) (fun b j b1 b2 => fP b j (Or.inr (Or.inr (by omega))))
  have fin : ∀ (T : fx_M) (V' : fx_M) (cs : List Int), mpv T V' → (∀ b j, ¬ (174 ≤ b ∧ b ≤ 177) → T b j = P b j) → cs.length ≤ 6000 → mRl (m_app T cs) (Z', V', S.2.2) ∧ mtq (m_app T cs) cs ∧ mEnd N (m_app T cs) := fun T V' cs hV fT hl => by
    refine mf_z hN hk (mz_uc hz ho (fun b j hb => ?_)) (mpv_fr hV (m_app_ne (by omega) (by omega)) (fun b j b1 b2 => m_app_ne (by omega) (by omega))) (mtq_app0 (by rw [fT 133 5 (by omega)]; exact p5) hl) (fun b j hb => ?_)
    · have := uc_b hb
      rw [m_app_ne (by omega) (by omega), fT b j (by omega)]
    · have := mC2_b hb
      rw [m_app_ne (by omega) (by omega), fT b j (by omega), fP b j (Or.inl hb)]
  refine hW ⟨⟨by omega, by omega⟩, fun hne => ⟨⟨by omega, by omega⟩, fun _ => ⟨⟨by omega, by omega⟩, fun _ => ?_, fun h => absurd h hne⟩, fun h => absurd h hne⟩, fun h0 => ?_⟩
  · refine sp_sayRefusal (d := d + 12) ⟨by omega, by omega⟩ (m_ok0 p5) (s258_132 ?_)
    have e1 : vNew r S.2.1 = S.2.1 := by
      unfold vNew
      rw [if_neg hne]
    have e2 : tChg v1 v2 r Z' = t_rf r := by
      unfold tChg
      rw [if_neg hne]
    rw [e1, e2] at hR
    obtain ⟨r1, r2, r3⟩ := fin P S.2.1 (t_rf r) hvP (fun _ _ _ => rfl) (Nat.le_trans t_rf_len (by omega))
    exact hR _ r1 r2 r3
  · have e1 : vNew r S.2.1 = pv_new S.2.1 := by
      unfold vNew
      rw [if_pos h0]
    rw [e1] at hR
    refine sp_playAnew (d := d + 16) hvP (fun T t1 t2 => s258_79 ?_)
    have t5 : T 133 5 = 0 := (t2 133 5 (by omega)).trans p5
    have t149 : T 149 0 = (Z'.2.2.2.1.length : Int) := (t2 149 0 (by omega)).trans hz.2.2.2.1
    refine ⟨⟨by omega, by omega⟩, fun h => absurd h0 h, fun _ => ⟨⟨by omega, by omega⟩, fun n1 => ⟨⟨by omega, by omega⟩, fun h => absurd h0 h, fun _ => ⟨⟨by omega, by omega⟩, fun n2 => ?_, fun y2 => ?_⟩⟩, fun y1 => ?_⟩⟩
    · have e2 : tChg v1 v2 r Z' = t_rf r := by
        unfold tChg
        rw [if_pos h0, if_neg n1, if_neg n2, h0]
        decide +kernel
      rw [e2] at hR
      refine sp_sayRefusal (d := d + 12) ⟨by omega, by omega⟩ (m_ok0 t5) (s258_132 ?_)
      obtain ⟨r1, r2, r3⟩ := fin T _ (t_rf r) t1 t2 (Nat.le_trans t_rf_len (by omega))
      exact hR _ r1 r2 r3
    · have e2 : tChg v1 v2 r Z' = wls 491596309875 ++ 32 :: dgs ((Z'.2.2.2.1.length : Int) - v2) := by
        have e3 : wls 491596309875 = [114, 117, 108, 101, 115] := by decide +kernel
        unfold tChg
        rw [if_pos h0, if_neg n1, if_pos y2, e3]
        rfl
      rw [t149]
      refine sp_sayCount (d := d + 13) (by unfold w_ok; omega) (m_ok0 t5) (by have := h2 y2; omega) (by omega) (s258_124 ?_)
      rw [e2] at hR
      obtain ⟨r1, r2, r3⟩ := fin T _ (wls 491596309875 ++ 32 :: dgs ((Z'.2.2.2.1.length : Int) - v2)) t1 t2 (Nat.le_trans wd_len (by omega))
      exact hR _ r1 r2 r3
    · have e2 : tChg v1 v2 r Z' = wls (wrd 1) ++ 32 :: dgs v2 := by
        have e3 : wls (wrd 1) = [114, 117, 108, 101] := by decide +kernel
        unfold tChg
        rw [if_pos h0, if_pos y1, e3]
        rfl
      refine sp_word (d := d + 16) (by omega) (by omega) (s258_93 (sp_sayCount (d := d + 13) (wrd_ok (by omega) (by omega)) (m_ok0 t5) (by omega) (by omega) (s258_97 ?_)))
      rw [e2] at hR
      obtain ⟨r1, r2, r3⟩ := fin T _ (wls (wrd 1) ++ 32 :: dgs v2) t1 t2 (Nat.le_trans wd_len (by omega))
      exact hR _ r1 r2 r3
theorem mw_new {n p : Int} (h : mIn M n p) (hS : mRl M S) (hk : hOk k S) (K : ∀ M', mRl M' (fnR n S (rq_new (M 135) n p S)).2 → mtq M' (fnR n S (rq_new (M 135) n p S)).1 → mEnd M M' → Q (some (jI (M' 133 5))) M') : wp kc (d + 20) 219 17 [some (jR 133), none] [jI 0] M Q := by
  obtain ⟨c0, rfl, rfl, c3, c4, c5, c6⟩ := min_b h
  have b1 := rBN_b (g := M 135) (e := M 133 3) (m := 1) (p := M 133 7) (w := 0) (by omega) c5
  have q1 : rBN (M 135) (M 133 3) 1 (M 133 7) 0 = rZ1 (M 135) (M 133 3) (M 133 7) 0 := rfl
  rw [q1] at b1
  have b2 := rBN_b (g := M 135) (e := M 133 3) (m := 1) (p := (rZ1 (M 135) (M 133 3) (M 133 7) 0).2.1) (w := (rZ1 (M 135) (M 133 3) (M 133 7) 0).2.2) (by omega) b1.2.1
  have q2 : rBN (M 135) (M 133 3) 1 (rZ1 (M 135) (M 133 3) (M 133 7) 0).2.1 (rZ1 (M 135) (M 133 3) (M 133 7) 0).2.2 = rZ2 (M 135) (M 133 3) (M 133 7) 0 := rfl
  rw [q2] at b2
  have b3 := rBN_b (g := M 135) (e := M 133 3) (m := 1) (p := (rZ2 (M 135) (M 133 3) (M 133 7) 0).2.1) (w := (rZ2 (M 135) (M 133 3) (M 133 7) 0).2.2) (by omega) b2.2.1
  have q3 : rBN (M 135) (M 133 3) 1 (rZ2 (M 135) (M 133 3) (M 133 7) 0).2.1 (rZ2 (M 135) (M 133 3) (M 133 7) 0).2.2 = rZ3 (M 135) (M 133 3) (M 133 7) 0 := rfl
  rw [q3] at b3
  have e11 := e1_10
  refine mw_arg (r := rq_new (M 135) (M 133 3) (M 133 7) S) ⟨by omega, by omega⟩ h hS hk (show 0 ≤ (rZ3 (M 135) (M 133 3) (M 133 7) 0).2.1 ∧ (rZ3 (M 135) (M 133 3) (M 133 7) 0).2.1 ≤ 6100 by omega) K (fun R h0 h1 => ma_sz c0 h0 (fun N aN a7 aw x1 x2 x3 => h1 N aN a7 aw (fun hN n5 n3 hn R' hR => ?_)))
  refine s257 ⟨⟨by omega, by omega⟩, fun _ => ?_, fun h => by omega, fun h => by omega, fun h => by omega, fun h => by omega, fun h => by omega, fun h => by omega, fun h => by omega, fun h => by omega, fun h => by omega, fun h => by omega, fun h => by omega, fun h => by omega, fun h => by omega, fun h => by omega, fun h => by omega, fun h => by omega, fun h => by omega, fun h => by omega, fun h => by omega, fun h => by omega, fun h => by omega, fun h => by omega, fun h => by omega, fun h => by omega, fun h => by omega, fun h => by omega, fun h => by omega, fun h => by omega, fun h => by omega, fun h => by omega, fun h => by omega, fun h => by omega, fun h => by omega, fun h => by omega, fun h => by omega, fun h => by omega, fun h => by omega, fun h => by omega, fun h => by omega, fun h => by omega, fun h => by omega, fun h => by omega, fun h => by omega, fun h => by omega, fun h => by omega⟩
  have h4 : N 149 0 = (S.1.2.2.2.1.length : Int) := hN.1.2.2.2.1
  refine s258 ⟨⟨by omega, by omega⟩, fun h => absurd rfl h, fun _ => ?_⟩
  rw [x1, x2, x3]
  refine sp_beginQ (d := d + 16) ⟨by omega, by omega⟩ hN.1 hk.1 ⟨by omega, by omega⟩ ⟨by omega, by omega⟩ ⟨by omega, by omega⟩ (fun P p1 p2 p3 => ?_)
  exact m_chg (d := d) hN hk n5 ⟨q_b.1, q_b.2.1⟩ ⟨by omega, by omega⟩ h4 (fun h => by omega) p1 p2 (ufr_ufr2 p3) (fun M1 m1 m2 m3 => s257_201 (hR M1 (by have := m1; exact this) (by rw [h4] at m2; exact m2) m3)) s258_28
theorem mw_rule {n p : Int} (h : mIn M n p) (hS : mRl M S) (hk : hOk k S) (K : ∀ M', mRl M' (fnR n S (rq_rule (M 135) n p S)).2 → mtq M' (fnR n S (rq_rule (M 135) n p S)).1 → mEnd M M' → Q (some (jI (M' 133 5))) M') : wp kc (d + 20) 219 17 [some (jR 133), none] [jI 1] M Q := by
  obtain ⟨c0, rfl, rfl, c3, c4, c5, c6⟩ := min_b h
  have kb := rK_b (g := M 135) (e := M 133 3) (bs := bsK) (p := M 133 7) (w := 0) c5
  have rb := rR_b (g := M 135) (e := M 133 3) ((M 133 3 - (rK (M 135) (M 133 3) bsK (M 133 7) 0).2.2.1).toNat + 1) true (rK (M 135) (M 133 3) bsK (M 133 7) 0).2.2.1 (rK (M 135) (M 133 3) bsK (M 133 7) 0).2.2.2 (by omega) (by omega) (by omega)
  have rl := rR_l (g := M 135) (e := M 133 3) ((M 133 3 - (rK (M 135) (M 133 3) bsK (M 133 7) 0).2.2.1).toNat + 1) true (rK (M 135) (M 133 3) bsK (M 133 7) 0).2.2.1 (rK (M 135) (M 133 3) bsK (M 133 7) 0).2.2.2 (by omega)
  have rl1 := rR_1 (g := M 135) (e := M 133 3) (f := (M 133 3 - (rK (M 135) (M 133 3) bsK (M 133 7) 0).2.2.1).toNat) (p := (rK (M 135) (M 133 3) bsK (M 133 7) 0).2.2.1) (w := (rK (M 135) (M 133 3) bsK (M 133 7) 0).2.2.2)
  have er : rR (M 135) (M 133 3) ((M 133 3 - (rK (M 135) (M 133 3) bsK (M 133 7) 0).2.2.1).toNat + 1) true (rK (M 135) (M 133 3) bsK (M 133 7) 0).2.2.1 (rK (M 135) (M 133 3) bsK (M 133 7) 0).2.2.2 = rRu (M 135) (M 133 3) (M 133 7) 0 := rfl
  rw [er] at rb rl rl1
  refine mw_arg (r := rq_rule (M 135) (M 133 3) (M 133 7) S) ⟨by omega, by omega⟩ h hS hk (show 0 ≤ (rRu (M 135) (M 133 3) (M 133 7) 0).2.1 ∧ (rRu (M 135) (M 133 3) (M 133 7) 0).2.1 ≤ 6100 by omega) K (fun R h0 h1 => ma_rule c0 h0 (fun N aN a7 aw k0 k8 x1 x2 x3 x4 => h1 N aN a7 aw (fun hN n5 n3 hn R' hR => ?_)))
  refine s257 ⟨⟨by omega, by omega⟩, fun h => by omega, fun _ => ?_, fun h => by omega, fun h => by omega, fun h => by omega, fun h => by omega, fun h => by omega, fun h => by omega, fun h => by omega, fun h => by omega, fun h => by omega, fun h => by omega, fun h => by omega, fun h => by omega, fun h => by omega, fun h => by omega, fun h => by omega, fun h => by omega, fun h => by omega, fun h => by omega, fun h => by omega, fun h => by omega, fun h => by omega, fun h => by omega, fun h => by omega, fun h => by omega, fun h => by omega, fun h => by omega, fun h => by omega, fun h => by omega, fun h => by omega, fun h => by omega, fun h => by omega, fun h => by omega, fun h => by omega, fun h => by omega, fun h => by omega, fun h => by omega, fun h => by omega, fun h => by omega, fun h => by omega, fun h => by omega, fun h => by omega, fun h => by omega, fun h => by omega, fun h => by omega⟩
  have h4 : N 149 0 = (S.1.2.2.2.1.length : Int) := hN.1.2.2.2.1
  refine s258 ⟨⟨by omega, by omega⟩, fun _ => ⟨⟨by omega, by omega⟩, fun h => absurd rfl h, fun _ => ?_⟩, fun h => by omega⟩
  refine sp_maddRuleQ (d := d + 15) ⟨by omega, by omega⟩ hN.1 hk.1 ⟨k0, k8⟩ ⟨kb.2.2.1, kb.2.2.2.1⟩ (rl1 aw) (by omega) x1 x2 x3 x4 rl.1 (fun P p1 p2 p3 => ?_)
  exact m_chg (d := d) hN hk n5 ⟨qr_b.1, qr_b.2⟩ ⟨by omega, by omega⟩ h4 (fun h => by omega) p1 p2 (ufr_ufr2 p3) (fun M1 m1 m2 m3 => s257_201 (hR M1 m1 (by rw [h4] at m2; exact m2) m3)) s258_41
theorem mw_each {n p : Int} (h : mIn M n p) (hS : mRl M S) (hk : hOk k S) (K : ∀ M', mRl M' (fnR n S (rq_each (M 135) n p S)).2 → mtq M' (fnR n S (rq_each (M 135) n p S)).1 → mEnd M M' → Q (some (jI (M' 133 5))) M') : wp kc (d + 20) 219 17 [some (jR 133), none] [jI 2] M Q := by
  obtain ⟨c0, rfl, rfl, c3, c4, c5, c6⟩ := min_b h
  have sb := rSd_b (g := M 135) (e := M 133 3) (p := M 133 7) (w := 0) c5
  have kb := rK_b (g := M 135) (e := M 133 3) (bs := bsK) (p := (rSd (M 135) (M 133 3) (M 133 7) 0).2.1) (w := (rSd (M 135) (M 133 3) (M 133 7) 0).2.2) (by omega)
  have er : rK (M 135) (M 133 3) bsK (rSd (M 135) (M 133 3) (M 133 7) 0).2.1 (rSd (M 135) (M 133 3) (M 133 7) 0).2.2 = rEa (M 135) (M 133 3) (M 133 7) := rfl
  rw [er] at kb
  refine mw_arg (r := rq_each (M 135) (M 133 3) (M 133 7) S) ⟨by omega, by omega⟩ h hS hk (show 0 ≤ (rEa (M 135) (M 133 3) (M 133 7)).2.2.1 ∧ (rEa (M 135) (M 133 3) (M 133 7)).2.2.1 ≤ 6100 by omega) K (fun R h0 h1 => ma_each c0 h0 (fun N aN a7 aw s0 s3 k0 k8 x1 x2 x3 => h1 N aN a7 aw (fun hN n5 n3 hn R' hR => ?_)))
  refine s257 ⟨⟨by omega, by omega⟩, fun h => by omega, fun h => by omega, fun _ => ?_, fun h => by omega, fun h => by omega, fun h => by omega, fun h => by omega, fun h => by omega, fun h => by omega, fun h => by omega, fun h => by omega, fun h => by omega, fun h => by omega, fun h => by omega, fun h => by omega, fun h => by omega, fun h => by omega, fun h => by omega, fun h => by omega, fun h => by omega, fun h => by omega, fun h => by omega, fun h => by omega, fun h => by omega, fun h => by omega, fun h => by omega, fun h => by omega, fun h => by omega, fun h => by omega, fun h => by omega, fun h => by omega, fun h => by omega, fun h => by omega, fun h => by omega, fun h => by omega, fun h => by omega, fun h => by omega, fun h => by omega, fun h => by omega, fun h => by omega, fun h => by omega, fun h => by omega, fun h => by omega, fun h => by omega, fun h => by omega, fun h => by omega⟩
  have h4 : N 149 0 = (S.1.2.2.2.1.length : Int) := hN.1.2.2.2.1
  refine s258 ⟨⟨by omega, by omega⟩, fun _ => ⟨⟨by omega, by omega⟩, fun _ => ⟨⟨by omega, by omega⟩, fun h => absurd rfl h, fun _ => ?_⟩, fun h => by omega⟩, fun h => by omega⟩
  refine sp_maddEachQ (d := d + 14) ⟨by omega, by omega⟩ hN.1 hk.1 ⟨s0, s3⟩ ⟨k0, k8⟩ ⟨kb.2.2.1, kb.2.2.2.1⟩ x2 x3 x1 (fun P p1 p2 p3 => ?_)
  exact m_chg (d := d) hN hk n5 ⟨qe_b.1, qe_b.2.1⟩ ⟨by omega, by omega⟩ h4 (fun _ => by rw [h4]; exact qe_b.2.2) p1 p2 p3 (fun M1 m1 m2 m3 => s257_201 (hR M1 m1 (by rw [h4] at m2; exact m2) m3)) s258_54
theorem mw_give {n p : Int} (h : mIn M n p) (hS : mRl M S) (hk : hOk k S) (K : ∀ M', mRl M' (fnR n S (rq_give (M 135) n p S)).2 → mtq M' (fnR n S (rq_give (M 135) n p S)).1 → mEnd M M' → Q (some (jI (M' 133 5))) M') : wp kc (d + 20) 219 17 [some (jR 133), none] [jI 3] M Q := by
  obtain ⟨c0, rfl, rfl, c3, c4, c5, c6⟩ := min_b h
  have nb := rBN_b (g := M 135) (e := M 133 3) (m := 3) (p := M 133 7) (w := 0) (by omega) c5
  have e10 := e3_10
  have sb := rBS_b (g := M 135) (e := M 133 3) (p := (rBN (M 135) (M 133 3) 3 (M 133 7) 0).2.1) (w := (rBN (M 135) (M 133 3) 3 (M 133 7) 0).2.2) (by omega)
  have er : rBS (M 135) (M 133 3) (rBN (M 135) (M 133 3) 3 (M 133 7) 0).2.1 (rBN (M 135) (M 133 3) 3 (M 133 7) 0).2.2 = rCs (M 135) (M 133 3) (M 133 7) := rfl
  rw [er] at sb
  refine mw_arg (r := rq_give (M 135) (M 133 3) (M 133 7) S) ⟨by omega, by omega⟩ h hS hk (show 0 ≤ (rCs (M 135) (M 133 3) (M 133 7)).2.1 ∧ (rCs (M 135) (M 133 3) (M 133 7)).2.1 ≤ 6100 by omega) K (fun R h0 h1 => ma_cs (Or.inl rfl) c0 h0 (fun N aN a7 aw x1 x2 => h1 N aN a7 aw (fun hN n5 n3 hn R' hR => ?_)))
  refine s257 ⟨⟨by omega, by omega⟩, fun h => by omega, fun h => by omega, fun h => by omega, fun _ => ?_, fun h => by omega, fun h => by omega, fun h => by omega, fun h => by omega, fun h => by omega, fun h => by omega, fun h => by omega, fun h => by omega, fun h => by omega, fun h => by omega, fun h => by omega, fun h => by omega, fun h => by omega, fun h => by omega, fun h => by omega, fun h => by omega, fun h => by omega, fun h => by omega, fun h => by omega, fun h => by omega, fun h => by omega, fun h => by omega, fun h => by omega, fun h => by omega, fun h => by omega, fun h => by omega, fun h => by omega, fun h => by omega, fun h => by omega, fun h => by omega, fun h => by omega, fun h => by omega, fun h => by omega, fun h => by omega, fun h => by omega, fun h => by omega, fun h => by omega, fun h => by omega, fun h => by omega, fun h => by omega, fun h => by omega, fun h => by omega⟩
  have h4 : N 149 0 = (S.1.2.2.2.1.length : Int) := hN.1.2.2.2.1
  rw [er] at x2
  refine s258 ⟨⟨by omega, by omega⟩, fun _ => ⟨⟨by omega, by omega⟩, fun _ => ⟨⟨by omega, by omega⟩, fun _ => ?_, fun h => by omega⟩, fun h => by omega⟩, fun h => by omega⟩
  rw [x1, x2]
  refine sp_mgiveQ (d := d + 15) ⟨by omega, by omega⟩ hN.1 hk.1 ⟨by omega, by omega⟩ ⟨by omega, by omega⟩ (by omega) (fun P p1 p2 p3 => ?_)
  exact m_chg (d := d) hN hk n5 ⟨qg_b.1, qg_b.2⟩ ⟨by omega, by omega⟩ h4 (fun h => by omega) p1 p2 (ufr_ufr2 p3) (fun M1 m1 m2 m3 => s257_201 (hR M1 m1 (by rw [h4] at m2; exact m2) m3)) s258_70
theorem mw_ans {n p : Int} (h : mIn M n p) (hS : mRl M S) (hk : hOk k S) (K : ∀ M', mRl M' (fnR n S (rq_ans (M 135) n p S)).2 → mtq M' (fnR n S (rq_ans (M 135) n p S)).1 → mEnd M M' → Q (some (jI (M' 133 5))) M') : wp kc (d + 20) 219 17 [some (jR 133), none] [jI 7] M Q := by
  obtain ⟨c0, rfl, rfl, c3, c4, c5, c6⟩ := min_b h
  have nb := rBN_b (g := M 135) (e := M 133 3) (m := 3) (p := M 133 7) (w := 0) (by omega) c5
  have e10 := e3_10
  refine mw_arg (r := rq_ans (M 135) (M 133 3) (M 133 7) S) ⟨by omega, by omega⟩ h hS hk (show 0 ≤ (rBN (M 135) (M 133 3) 3 (M 133 7) 0).2.1 ∧ (rBN (M 135) (M 133 3) 3 (M 133 7) 0).2.1 ≤ 6100 by omega) K (fun R h0 h1 => ma_n3 (by omega) c0 h0 (fun N aN a7 aw x1 => h1 N aN a7 aw (fun hN n5 n3 hn R' hR => ?_)))
  refine s257 ⟨⟨by omega, by omega⟩, fun h => by omega, fun h => by omega, fun h => by omega, fun h => by omega, fun h => by omega, fun h => by omega, fun h => by omega, fun _ => ?_, fun h => by omega, fun h => by omega, fun h => by omega, fun h => by omega, fun h => by omega, fun h => by omega, fun h => by omega, fun h => by omega, fun h => by omega, fun h => by omega, fun h => by omega, fun h => by omega, fun h => by omega, fun h => by omega, fun h => by omega, fun h => by omega, fun h => by omega, fun h => by omega, fun h => by omega, fun h => by omega, fun h => by omega, fun h => by omega, fun h => by omega, fun h => by omega, fun h => by omega, fun h => by omega, fun h => by omega, fun h => by omega, fun h => by omega, fun h => by omega, fun h => by omega, fun h => by omega, fun h => by omega, fun h => by omega, fun h => by omega, fun h => by omega, fun h => by omega, fun h => by omega⟩
  have et : (rq_ans (M 135) (M 133 3) (M 133 7) S).2.2 = ((if 100 < (rBN (M 135) (M 133 3) 3 (M 133 7) 0).1 then t_rf 3 else tAns S.1 (rBN (M 135) (M 133 3) 3 (M 133 7) 0).1.toNat), S) := rfl
  rw [et] at hR
  generalize rBN (M 135) (M 133 3) 3 (M 133 7) 0 = z at *
  obtain ⟨a, ha⟩ : ∃ a : Nat, z.1 = (a : Int) := ⟨z.1.toNat, by omega⟩
  rw [ha] at x1 hR nb
  rw [Int.toNat_natCast] at hR
  refine s379 ⟨⟨by omega, by omega⟩, fun h => by omega, fun h => by omega, fun _ => ?_, fun h => by omega, fun h => by omega, fun h => by omega, fun h => by omega, fun h => by omega, fun h => by omega, fun h => by omega, fun h => by omega, fun h => by omega, fun h => by omega, fun h => by omega, fun h => by omega, fun h => by omega, fun h => by omega, fun h => by omega, fun h => by omega, fun h => by omega⟩
  refine ⟨⟨by omega, by omega⟩, fun hle => ?_, fun hlt => ?_⟩
  · rw [if_neg (by omega)] at hR
    rw [x1]
    refine sp_sayAnswers (d := d + 11) hk.1 hN.1 (m_ok0 n5) (n := a) (by omega) (fun M' m1 => s379_125 (s257_306 ?_))
    obtain ⟨r1, r2, r3⟩ := mf_wr hN hk n5 (Nat.le_trans (tAns_len hk.1 (by omega)) (by omega)) m1
    exact hR _ r1 r2 r3
  · rw [if_pos (by omega)] at hR
    refine sp_sayRefusal (d := d + 12) ⟨by omega, by omega⟩ (m_ok0 n5) (s379_114 (s257_306 ?_))
    obtain ⟨r1, r2, r3⟩ := mf_app (cs := t_rf 3) hN hk n5 (Nat.le_trans t_rf_len (by omega))
    exact hR _ r1 r2 r3
theorem mw_pick {n p : Int} (h : mIn M n p) (hS : mRl M S) (hk : hOk k S) (K : ∀ M', mRl M' (fnR n S (rq_pick (M 135) n p S)).2 → mtq M' (fnR n S (rq_pick (M 135) n p S)).1 → mEnd M M' → Q (some (jI (M' 133 5))) M') : wp kc (d + 20) 219 17 [some (jR 133), none] [jI 9] M Q := by
  obtain ⟨c0, rfl, rfl, c3, c4, c5, c6⟩ := min_b h
  have nb := rBN_b (g := M 135) (e := M 133 3) (m := 6) (p := M 133 7) (w := 0) (by omega) c5
  have e10 := e6_10
  refine mw_arg (r := rq_pick (M 135) (M 133 3) (M 133 7) S) ⟨by omega, by omega⟩ h hS hk (show 0 ≤ (rBN (M 135) (M 133 3) 6 (M 133 7) 0).2.1 ∧ (rBN (M 135) (M 133 3) 6 (M 133 7) 0).2.1 ≤ 6100 by omega) K (fun R h0 h1 => ma_n6 c0 h0 (fun N aN a7 aw x1 => h1 N aN a7 aw (fun hN n5 n3 hn R' hR => ?_)))
  refine s257 ⟨⟨by omega, by omega⟩, fun h => by omega, fun h => by omega, fun h => by omega, fun h => by omega, fun h => by omega, fun h => by omega, fun h => by omega, fun h => by omega, fun h => by omega, fun _ => ?_, fun h => by omega, fun h => by omega, fun h => by omega, fun h => by omega, fun h => by omega, fun h => by omega, fun h => by omega, fun h => by omega, fun h => by omega, fun h => by omega, fun h => by omega, fun h => by omega, fun h => by omega, fun h => by omega, fun h => by omega, fun h => by omega, fun h => by omega, fun h => by omega, fun h => by omega, fun h => by omega, fun h => by omega, fun h => by omega, fun h => by omega, fun h => by omega, fun h => by omega, fun h => by omega, fun h => by omega, fun h => by omega, fun h => by omega, fun h => by omega, fun h => by omega, fun h => by omega, fun h => by omega, fun h => by omega, fun h => by omega, fun h => by omega⟩
  have et : (rq_pick (M 135) (M 133 3) (M 133 7) S).2.2 = (tPick S.1 (rBN (M 135) (M 133 3) 6 (M 133 7) 0).1.toNat, S) := rfl
  rw [et] at hR
  generalize rBN (M 135) (M 133 3) 6 (M 133 7) 0 = z at *
  obtain ⟨a, ha⟩ : ∃ a : Nat, z.1 = (a : Int) := ⟨z.1.toNat, by omega⟩
  rw [ha] at x1 hR nb
  rw [Int.toNat_natCast] at hR
  refine s379 ⟨⟨by omega, by omega⟩, fun h => by omega, fun h => by omega, fun h => by omega, fun h => by omega, fun _ => ?_, fun h => by omega, fun h => by omega, fun h => by omega, fun h => by omega, fun h => by omega, fun h => by omega, fun h => by omega, fun h => by omega, fun h => by omega, fun h => by omega, fun h => by omega, fun h => by omega, fun h => by omega, fun h => by omega, fun h => by omega⟩
  rw [x1]
  refine sp_sayPick (d := d + 11) hk.1 hN.1 (m_ok0 n5) (n := a) (by omega) (fun M' m1 => s379_150 (s257_306 ?_))
  obtain ⟨r1, r2, r3⟩ := mf_wr hN hk n5 (Nat.le_trans (tPick_len hk.1) (by omega)) m1
  exact hR _ r1 r2 r3
theorem mw_cover {n p : Int} (h : mIn M n p) (hS : mRl M S) (hk : hOk k S) (K : ∀ M', mRl M' (fnR n S (rq_cover (M 135) n p S)).2 → mtq M' (fnR n S (rq_cover (M 135) n p S)).1 → mEnd M M' → Q (some (jI (M' 133 5))) M') : wp kc (d + 20) 219 17 [some (jR 133), none] [jI 23] M Q := by
  obtain ⟨c0, rfl, rfl, c3, c4, c5, c6⟩ := min_b h
  have nb := rBN_b (g := M 135) (e := M 133 3) (m := 3) (p := M 133 7) (w := 0) (by omega) c5
  have e10 := e3_10
  refine mw_arg (r := rq_cover (M 135) (M 133 3) (M 133 7) S) ⟨by omega, by omega⟩ h hS hk (show 0 ≤ (rBN (M 135) (M 133 3) 3 (M 133 7) 0).2.1 ∧ (rBN (M 135) (M 133 3) 3 (M 133 7) 0).2.1 ≤ 6100 by omega) K (fun R h0 h1 => ma_n3 (by omega) c0 h0 (fun N aN a7 aw x1 => h1 N aN a7 aw (fun hN n5 n3 hn R' hR => ?_)))
  refine s257 ⟨⟨by omega, by omega⟩, fun h => by omega, fun h => by omega, fun h => by omega, fun h => by omega, fun h => by omega, fun h => by omega, fun h => by omega, fun h => by omega, fun h => by omega, fun h => by omega, fun h => by omega, fun h => by omega, fun h => by omega, fun h => by omega, fun h => by omega, fun h => by omega, fun h => by omega, fun h => by omega, fun h => by omega, fun h => by omega, fun h => by omega, fun h => by omega, fun h => by omega, fun _ => ?_, fun h => by omega, fun h => by omega, fun h => by omega, fun h => by omega, fun h => by omega, fun h => by omega, fun h => by omega, fun h => by omega, fun h => by omega, fun h => by omega, fun h => by omega, fun h => by omega, fun h => by omega, fun h => by omega, fun h => by omega, fun h => by omega, fun h => by omega, fun h => by omega, fun h => by omega, fun h => by omega, fun h => by omega, fun h => by omega⟩
  have et : (rq_cover (M 135) (M 133 3) (M 133 7) S).2.2 = ((if 100 < (rBN (M 135) (M 133 3) 3 (M 133 7) 0).1 then t_rf 3 else tCov S.1 (rBN (M 135) (M 133 3) 3 (M 133 7) 0).1.toNat), S) := rfl
  rw [et] at hR
  generalize rBN (M 135) (M 133 3) 3 (M 133 7) 0 = z at *
  obtain ⟨a, ha⟩ : ∃ a : Nat, z.1 = (a : Int) := ⟨z.1.toNat, by omega⟩
  rw [ha] at x1 hR nb
  rw [Int.toNat_natCast] at hR
  refine s379 ⟨⟨by omega, by omega⟩, fun h => by omega, fun h => by omega, fun h => by omega, fun h => by omega, fun h => by omega, fun h => by omega, fun h => by omega, fun h => by omega, fun h => by omega, fun h => by omega, fun h => by omega, fun h => by omega, fun h => by omega, fun h => by omega, fun h => by omega, fun h => by omega, fun h => by omega, fun h => by omega, fun _ => ?_, fun h => by omega⟩
  rw [x1]
  refine sp_sayCover (d := d + 11) hk.1 hN.1 (m_ok0 n5) (n := a) (by omega) (fun hg => s379_203 (s257_306 ?_)) (fun hg M' m1 => s379_203 (s257_306 ?_))
  · rw [if_pos (by omega)] at hR
    obtain ⟨r1, r2, r3⟩ := mf_app (cs := t_rf 3) hN hk n5 (Nat.le_trans t_rf_len (by omega))
    exact hR _ r1 r2 r3
  · rw [if_neg (by omega)] at hR
    obtain ⟨r1, r2, r3⟩ := mf_wr hN hk n5 (Nat.le_trans (tCov_len hk.1 hg) (by omega)) m1
    exact hR _ r1 r2 r3
theorem mw_vary {n p : Int} (h : mIn M n p) (hS : mRl M S) (hk : hOk k S) (K : ∀ M', mRl M' (fnR n S (rq_vary (M 135) n p S)).2 → mtq M' (fnR n S (rq_vary (M 135) n p S)).1 → mEnd M M' → Q (some (jI (M' 133 5))) M') : wp kc (d + 20) 219 17 [some (jR 133), none] [jI 21] M Q := by
  obtain ⟨c0, rfl, rfl, c3, c4, c5, c6⟩ := min_b h
  have nb := rBN_b (g := M 135) (e := M 133 3) (m := 3) (p := M 133 7) (w := 0) (by omega) c5
  have e10 := e3_10
  refine mw_arg (r := rq_vary (M 135) (M 133 3) (M 133 7) S) ⟨by omega, by omega⟩ h hS hk (show 0 ≤ (rBN (M 135) (M 133 3) 3 (M 133 7) 0).2.1 ∧ (rBN (M 135) (M 133 3) 3 (M 133 7) 0).2.1 ≤ 6100 by omega) K (fun R h0 h1 => ma_n3 (by omega) c0 h0 (fun N aN a7 aw x1 => h1 N aN a7 aw (fun hN n5 n3 hn R' hR => ?_)))
  refine s257 ⟨⟨by omega, by omega⟩, fun h => by omega, fun h => by omega, fun h => by omega, fun h => by omega, fun h => by omega, fun h => by omega, fun h => by omega, fun h => by omega, fun h => by omega, fun h => by omega, fun h => by omega, fun h => by omega, fun h => by omega, fun h => by omega, fun h => by omega, fun h => by omega, fun h => by omega, fun h => by omega, fun h => by omega, fun h => by omega, fun h => by omega, fun _ => ?_, fun h => by omega, fun h => by omega, fun h => by omega, fun h => by omega, fun h => by omega, fun h => by omega, fun h => by omega, fun h => by omega, fun h => by omega, fun h => by omega, fun h => by omega, fun h => by omega, fun h => by omega, fun h => by omega, fun h => by omega, fun h => by omega, fun h => by omega, fun h => by omega, fun h => by omega, fun h => by omega, fun h => by omega, fun h => by omega, fun h => by omega, fun h => by omega⟩
  have et : (rq_vary (M 135) (M 133 3) (M 133 7) S).2.2 = (t_ok, (vrZ S.1 ((rBN (M 135) (M 133 3) 3 (M 133 7) 0).1 % mps S.1.1 S.1.2.1) ((rBN (M 135) (M 133 3) 3 (M 133 7) 0).1 / mps S.1.1 S.1.2.1 % (rgs S.1 : Nat)).toNat, pv_new S.2.1, S.2.2)) := rfl
  rw [et] at hR
  refine s266 ⟨⟨by omega, by omega⟩, fun _ => ⟨⟨by omega, by omega⟩, fun _ => ?_, fun h => by omega⟩, fun h => by omega⟩
  rw [x1]
  refine sp_sayVary (d := d + 12) hN.1 hk.1 ⟨by omega, by omega⟩ hN.2.1 (m_ok0 n5) (fun M' m1 m2 m3 => s266_42 (s257_228 ?_))
  obtain ⟨r1, r2, r3⟩ := mf_z (cs := t_ok) hN hk m1 m2 (mtq_out n5 (by decide) (m3 133 5 (by omega) (fun x => by have := uc_b x; omega) (fun x => by have := uc_b x; omega) (by omega)) (fun j => m3 136 j (by omega) (fun x => by have := uc_b x; omega) (fun x => by have := uc_b x; omega) (by omega))) (fun b j hb => by
    have hb2 := mC2_b hb
    rw [m3 b j (by omega) (mC2_u hb (by omega)) (mC2_u hb (by omega)) (by omega), m_app_ne (by omega) (by omega)])
  exact hR _ r1 r2 r3
theorem mw_make {n p : Int} (h : mIn M n p) (hS : mRl M S) (hk : hOk k S) (K : ∀ M', mRl M' (fnR n S (rq_make (M 135) n p S)).2 → mtq M' (fnR n S (rq_make (M 135) n p S)).1 → mEnd M M' → Q (some (jI (M' 133 5))) M') : wp kc (d + 20) 219 17 [some (jR 133), none] [jI 19] M Q := by
  obtain ⟨c0, rfl, rfl, c3, c4, c5, c6⟩ := min_b h
  have nb := rBN_b (g := M 135) (e := M 133 3) (m := 3) (p := M 133 7) (w := 0) (by omega) c5
  have e10 := e3_10
  have sb := rBN_b (g := M 135) (e := M 133 3) (m := 1) (p := (rBN (M 135) (M 133 3) 3 (M 133 7) 0).2.1) (w := (rBN (M 135) (M 133 3) 3 (M 133 7) 0).2.2) (by omega) (by omega)
  have er : rBN (M 135) (M 133 3) 1 (rBN (M 135) (M 133 3) 3 (M 133 7) 0).2.1 (rBN (M 135) (M 133 3) 3 (M 133 7) 0).2.2 = rCd (M 135) (M 133 3) (M 133 7) := rfl
  rw [er] at sb
  have e11 := e1_10
  refine mw_arg (r := rq_make (M 135) (M 133 3) (M 133 7) S) ⟨by omega, by omega⟩ h hS hk (show 0 ≤ (rCd (M 135) (M 133 3) (M 133 7)).2.1 ∧ (rCd (M 135) (M 133 3) (M 133 7)).2.1 ≤ 6100 by omega) K (fun R h0 h1 => ma_cd (Or.inl rfl) c0 h0 (fun N aN a7 aw x1 x2 => h1 N aN a7 aw (fun hN n5 n3 hn R' hR => ?_)))
  refine s257 ⟨⟨by omega, by omega⟩, fun h => by omega, fun h => by omega, fun h => by omega, fun h => by omega, fun h => by omega, fun h => by omega, fun h => by omega, fun h => by omega, fun h => by omega, fun h => by omega, fun h => by omega, fun h => by omega, fun h => by omega, fun h => by omega, fun h => by omega, fun h => by omega, fun h => by omega, fun h => by omega, fun h => by omega, fun _ => ?_, fun h => by omega, fun h => by omega, fun h => by omega, fun h => by omega, fun h => by omega, fun h => by omega, fun h => by omega, fun h => by omega, fun h => by omega, fun h => by omega, fun h => by omega, fun h => by omega, fun h => by omega, fun h => by omega, fun h => by omega, fun h => by omega, fun h => by omega, fun h => by omega, fun h => by omega, fun h => by omega, fun h => by omega, fun h => by omega, fun h => by omega, fun h => by omega, fun h => by omega, fun h => by omega⟩
  rw [er] at x2
  have et : (rq_make (M 135) (M 133 3) (M 133 7) S).2.2 = ((if 1 < (rCd (M 135) (M 133 3) (M 133 7)).1 then tNoKind else if ans (zfre S.1) = [] then wls 1852796517 else tMade S.1 (rBN (M 135) (M 133 3) 3 (M 133 7) 0).1 (rCd (M 135) (M 133 3) (M 133 7)).1), (if 1 < (rCd (M 135) (M 133 3) (M 133 7)).1 then S else if ans (zfre S.1) = [] then S else (zMk S.1 (rBN (M 135) (M 133 3) 3 (M 133 7) 0).1 (rCd (M 135) (M 133 3) (M 133 7)).1, pv_new S.2.1, S.2.2))) := rfl
  rw [et] at hR
  refine s266 ⟨⟨by omega, by omega⟩, fun _ => ⟨⟨by omega, by omega⟩, fun h => absurd rfl h, fun _ => ?_⟩, fun h => by omega⟩
  rw [x1, x2]
  refine sp_sayMake (d := d + 9) hk.1 hN.1 hN.2.1 (m_ok0 n5) ⟨by omega, by omega⟩ ⟨by omega, by omega⟩ (fun g1 => s266_31 (s257_228 ?_)) (fun g1 g2 M' m1 => s266_31 (s257_228 ?_)) (fun g1 g2 g3 M' m1 m2 m3 => s266_31 (s257_228 ?_))
  · rw [if_pos g1, if_pos g1] at hR
    obtain ⟨r1, r2, r3⟩ := mf_app (cs := tNoKind) hN hk n5 (by decide +kernel)
    exact hR _ r1 r2 r3
  · rw [if_neg (by omega), if_pos g2, if_neg (by omega), if_pos g2] at hR
    obtain ⟨r1, r2, r3⟩ := mf_wr hN hk n5 (Nat.le_trans wls_8 (by omega)) m1
    exact hR _ r1 r2 r3
  · rw [if_neg (by omega), if_neg g2, if_neg (by omega), if_neg g2] at hR
    obtain ⟨r1, r2, r3⟩ := mf_z (cs := tMade S.1 (rBN (M 135) (M 133 3) 3 (M 133 7) 0).1 (rCd (M 135) (M 133 3) (M 133 7)).1) hN hk m2 m3 (mtq_out n5 (Nat.le_trans wd_len (by omega)) (m1 133 5 msc_5 (by omega) (by omega)) (fun j => m1 136 j msc_136 (by omega) (by omega))) (fun b j hb => by
      have hb2 := mC2_b hb
      rw [m1 b j (mC2_s hb) (mC2_g hb) (by omega), m_app_ne (by omega) (by omega)])
    exact hR _ r1 r2 r3
theorem mw_person {n p : Int} (h : mIn M n p) (hS : mRl M S) (hk : hOk k S) (K : ∀ M', mRl M' (fnR n S (rq_person (M 135) n p S)).2 → mtq M' (fnR n S (rq_person (M 135) n p S)).1 → mEnd M M' → Q (some (jI (M' 133 5))) M') : wp kc (d + 20) 219 17 [some (jR 133), none] [jI 25] M Q := by
  obtain ⟨c0, rfl, rfl, c3, c4, c5, c6⟩ := min_b h
  have nb := rBN_b (g := M 135) (e := M 133 3) (m := 1) (p := M 133 7) (w := 0) (by omega) c5
  have e10 := e1_10
  refine mw_arg (r := rq_person (M 135) (M 133 3) (M 133 7) S) ⟨by omega, by omega⟩ h hS hk (show 0 ≤ (rBN (M 135) (M 133 3) 1 (M 133 7) 0).2.1 ∧ (rBN (M 135) (M 133 3) 1 (M 133 7) 0).2.1 ≤ 6100 by omega) K (fun R h0 h1 => ma_n1 c0 h0 (fun N aN a7 aw x1 => h1 N aN a7 aw (fun hN n5 n3 hn R' hR => ?_)))
  refine s257 ⟨⟨by omega, by omega⟩, fun h => by omega, fun h => by omega, fun h => by omega, fun h => by omega, fun h => by omega, fun h => by omega, fun h => by omega, fun h => by omega, fun h => by omega, fun h => by omega, fun h => by omega, fun h => by omega, fun h => by omega, fun h => by omega, fun h => by omega, fun h => by omega, fun h => by omega, fun h => by omega, fun h => by omega, fun h => by omega, fun h => by omega, fun h => by omega, fun h => by omega, fun h => by omega, fun h => by omega, fun _ => ?_, fun h => by omega, fun h => by omega, fun h => by omega, fun h => by omega, fun h => by omega, fun h => by omega, fun h => by omega, fun h => by omega, fun h => by omega, fun h => by omega, fun h => by omega, fun h => by omega, fun h => by omega, fun h => by omega, fun h => by omega, fun h => by omega, fun h => by omega, fun h => by omega, fun h => by omega, fun h => by omega⟩
  have et : (rq_person (M 135) (M 133 3) (M 133 7) S).2.2 = (t_who (v_who S.2.1 (rBN (M 135) (M 133 3) 1 (M 133 7) 0).1).1, (S.1, (v_who S.2.1 (rBN (M 135) (M 133 3) 1 (M 133 7) 0).1).2, S.2.2)) := rfl
  rw [et] at hR
  refine s292 ⟨⟨by omega, by omega⟩, fun h => by omega, fun h => by omega, fun h => by omega, fun h => by omega, fun h => by omega, fun h => by omega, fun h => by omega, fun h => by omega, fun h => by omega, fun h => by omega, fun h => by omega, fun h => by omega, fun _ => ?_, fun h => by omega, fun h => by omega, fun h => by omega, fun h => by omega, fun h => by omega, fun h => by omega, fun h => by omega⟩
  rw [x1]
  refine sp_sayPerson (d := d + 11) hN.2.1 (m_ok0 n5) ⟨by omega, by omega⟩ (fun T t1 t2 => s292_121 (s257_236 ?_))
  obtain ⟨r1, r2, r3⟩ := mf_pl (cs := t_who (v_who S.2.1 (rBN (M 135) (M 133 3) 1 (M 133 7) 0).1).1) hN hk n5 (Nat.le_trans t_who_len (by omega)) t1 (fun b j b1 b2 => t2 b j b2)
  exact hR _ r1 r2 r3
theorem mw_put {n p : Int} (h : mIn M n p) (hS : mRl M S) (hk : hOk k S) (K : ∀ M', mRl M' (fnR n S (rq_put (M 135) n p S)).2 → mtq M' (fnR n S (rq_put (M 135) n p S)).1 → mEnd M M' → Q (some (jI (M' 133 5))) M') : wp kc (d + 20) 219 17 [some (jR 133), none] [jI 26] M Q := by
  obtain ⟨c0, rfl, rfl, c3, c4, c5, c6⟩ := min_b h
  have nb := rBN_b (g := M 135) (e := M 133 3) (m := 3) (p := M 133 7) (w := 0) (by omega) c5
  have e10 := e3_10
  have sb := rBS_b (g := M 135) (e := M 133 3) (p := (rBN (M 135) (M 133 3) 3 (M 133 7) 0).2.1) (w := (rBN (M 135) (M 133 3) 3 (M 133 7) 0).2.2) (by omega)
  have er : rBS (M 135) (M 133 3) (rBN (M 135) (M 133 3) 3 (M 133 7) 0).2.1 (rBN (M 135) (M 133 3) 3 (M 133 7) 0).2.2 = rCs (M 135) (M 133 3) (M 133 7) := rfl
  rw [er] at sb
  refine mw_arg (r := rq_put (M 135) (M 133 3) (M 133 7) S) ⟨by omega, by omega⟩ h hS hk (show 0 ≤ (rCs (M 135) (M 133 3) (M 133 7)).2.1 ∧ (rCs (M 135) (M 133 3) (M 133 7)).2.1 ≤ 6100 by omega) K (fun R h0 h1 => ma_cs (Or.inr rfl) c0 h0 (fun N aN a7 aw x1 x2 => h1 N aN a7 aw (fun hN n5 n3 hn R' hR => ?_)))
  refine s257 ⟨⟨by omega, by omega⟩, fun h => by omega, fun h => by omega, fun h => by omega, fun h => by omega, fun h => by omega, fun h => by omega, fun h => by omega, fun h => by omega, fun h => by omega, fun h => by omega, fun h => by omega, fun h => by omega, fun h => by omega, fun h => by omega, fun h => by omega, fun h => by omega, fun h => by omega, fun h => by omega, fun h => by omega, fun h => by omega, fun h => by omega, fun h => by omega, fun h => by omega, fun h => by omega, fun h => by omega, fun h => by omega, fun _ => ?_, fun h => by omega, fun h => by omega, fun h => by omega, fun h => by omega, fun h => by omega, fun h => by omega, fun h => by omega, fun h => by omega, fun h => by omega, fun h => by omega, fun h => by omega, fun h => by omega, fun h => by omega, fun h => by omega, fun h => by omega, fun h => by omega, fun h => by omega, fun h => by omega, fun h => by omega⟩
  rw [er] at x2
  have et : (rq_put (M 135) (M 133 3) (M 133 7) S).2.2 = (t_pt (v_put S.2.1 S.1 (rBN (M 135) (M 133 3) 3 (M 133 7) 0).1 (rCs (M 135) (M 133 3) (M 133 7)).1).1, (S.1, (v_put S.2.1 S.1 (rBN (M 135) (M 133 3) 3 (M 133 7) 0).1 (rCs (M 135) (M 133 3) (M 133 7)).1).2, S.2.2)) := rfl
  rw [et] at hR
  refine s292 ⟨⟨by omega, by omega⟩, fun h => by omega, fun h => by omega, fun h => by omega, fun h => by omega, fun h => by omega, fun h => by omega, fun h => by omega, fun h => by omega, fun h => by omega, fun h => by omega, fun h => by omega, fun h => by omega, fun h => by omega, fun _ => ?_, fun h => by omega, fun h => by omega, fun h => by omega, fun h => by omega, fun h => by omega, fun h => by omega⟩
  rw [x1, x2]
  refine sp_sayPut (d := d + 11) hN.1 hk.1 hN.2.1 hk.2.2.1 (m_ok0 n5) ⟨by omega, by omega⟩ ⟨by omega, by omega⟩ (fun T t1 t2 => s292_136 (s257_236 ?_))
  obtain ⟨r1, r2, r3⟩ := mf_pl (cs := t_pt (v_put S.2.1 S.1 (rBN (M 135) (M 133 3) 3 (M 133 7) 0).1 (rCs (M 135) (M 133 3) (M 133 7)).1).1) hN hk n5 (Nat.le_trans t_pt_len (by omega)) t1 (fun b j b1 b2 => t2 b j b1)
  exact hR _ r1 r2 r3
theorem mw_redo {n p : Int} (h : mIn M n p) (hS : mRl M S) (hk : hOk k S) (K : ∀ M', mRl M' (fnR n S (rq_redo (M 135) n p S)).2 → mtq M' (fnR n S (rq_redo (M 135) n p S)).1 → mEnd M M' → Q (some (jI (M' 133 5))) M') : wp kc (d + 20) 219 17 [some (jR 133), none] [jI 28] M Q := by
  obtain ⟨c0, rfl, rfl, c3, c4, c5, c6⟩ := min_b h
  have nb := rBN_b (g := M 135) (e := M 133 3) (m := 3) (p := M 133 7) (w := 0) (by omega) c5
  have e10 := e3_10
  refine mw_arg (r := rq_redo (M 135) (M 133 3) (M 133 7) S) ⟨by omega, by omega⟩ h hS hk (show 0 ≤ (rBN (M 135) (M 133 3) 3 (M 133 7) 0).2.1 ∧ (rBN (M 135) (M 133 3) 3 (M 133 7) 0).2.1 ≤ 6100 by omega) K (fun R h0 h1 => ma_n3 (by omega) c0 h0 (fun N aN a7 aw x1 => h1 N aN a7 aw (fun hN n5 n3 hn R' hR => ?_)))
  refine s257 ⟨⟨by omega, by omega⟩, fun h => by omega, fun h => by omega, fun h => by omega, fun h => by omega, fun h => by omega, fun h => by omega, fun h => by omega, fun h => by omega, fun h => by omega, fun h => by omega, fun h => by omega, fun h => by omega, fun h => by omega, fun h => by omega, fun h => by omega, fun h => by omega, fun h => by omega, fun h => by omega, fun h => by omega, fun h => by omega, fun h => by omega, fun h => by omega, fun h => by omega, fun h => by omega, fun h => by omega, fun h => by omega, fun h => by omega, fun h => by omega, fun _ => ?_, fun h => by omega, fun h => by omega, fun h => by omega, fun h => by omega, fun h => by omega, fun h => by omega, fun h => by omega, fun h => by omega, fun h => by omega, fun h => by omega, fun h => by omega, fun h => by omega, fun h => by omega, fun h => by omega, fun h => by omega, fun h => by omega, fun h => by omega⟩
  refine s292 ⟨⟨by omega, by omega⟩, fun h => by omega, fun h => by omega, fun h => by omega, fun h => by omega, fun h => by omega, fun h => by omega, fun h => by omega, fun h => by omega, fun h => by omega, fun h => by omega, fun h => by omega, fun h => by omega, fun h => by omega, fun h => by omega, fun h => by omega, fun _ => ?_, fun h => by omega, fun h => by omega, fun h => by omega, fun h => by omega⟩
  rw [x1]
  refine sp_sayRedo (d := d + 11) hN.2.1 hk.2.2.1 (m_ok0 n5) ⟨by omega, by omega⟩ (fun e T t1 t2 => s292_154 (s257_236 ?_)) (fun e => s292_154 (s257_236 ?_))
  · have ea : (rq_redo (M 135) (M 133 3) (M 133 7) S).2.2 = (t_ok, (S.1, (vRd S.2.1 (rBN (M 135) (M 133 3) 3 (M 133 7) 0).1).2, S.2.2)) := by
      unfold rq_redo unV unT
      rw [if_pos (show (vRd S.2.1 (rBN (M 135) (M 133 3) 3 (M 133 7) 0).1).1 = 0 from e), if_pos (show (vRd S.2.1 (rBN (M 135) (M 133 3) 3 (M 133 7) 0).1).1 = 0 from e)]
    rw [ea] at hR
    obtain ⟨r1, r2, r3⟩ := mf_pl (cs := t_ok) hN hk n5 (by decide) t1 (fun b j b1 b2 => t2 b j b1)
    exact hR _ r1 r2 r3
  · have e' : ¬ (vRd S.2.1 (rBN (M 135) (M 133 3) 3 (M 133 7) 0).1).1 = 0 := fun x => by
      have y : (vRd S.2.1 (rBN (M 135) (M 133 3) 3 (M 133 7) 0).1).1 = 1 := e
      omega
    have ea : (rq_redo (M 135) (M 133 3) (M 133 7) S).2.2 = (t_no (wrd 14), S) := by
      unfold rq_redo unV unT
      rw [if_neg e', if_neg e']
    rw [ea] at hR
    obtain ⟨r1, r2, r3⟩ := mf_app (cs := t_no (wrd 14)) hN hk n5 (Nat.le_trans t_no_len (by omega))
    exact hR _ r1 r2 r3
theorem mw_mark {n p : Int} (h : mIn M n p) (hS : mRl M S) (hk : hOk k S) (K : ∀ M', mRl M' (fnR n S (rq_mark (M 135) n p S)).2 → mtq M' (fnR n S (rq_mark (M 135) n p S)).1 → mEnd M M' → Q (some (jI (M' 133 5))) M') : wp kc (d + 20) 219 17 [some (jR 133), none] [jI 30] M Q := by
  obtain ⟨c0, rfl, rfl, c3, c4, c5, c6⟩ := min_b h
  have nb := rBN_b (g := M 135) (e := M 133 3) (m := 3) (p := M 133 7) (w := 0) (by omega) c5
  have e10 := e3_10
  have sb := rBN_b (g := M 135) (e := M 133 3) (m := 1) (p := (rBN (M 135) (M 133 3) 3 (M 133 7) 0).2.1) (w := (rBN (M 135) (M 133 3) 3 (M 133 7) 0).2.2) (by omega) (by omega)
  have er : rBN (M 135) (M 133 3) 1 (rBN (M 135) (M 133 3) 3 (M 133 7) 0).2.1 (rBN (M 135) (M 133 3) 3 (M 133 7) 0).2.2 = rCd (M 135) (M 133 3) (M 133 7) := rfl
  rw [er] at sb
  have e11 := e1_10
  refine mw_arg (r := rq_mark (M 135) (M 133 3) (M 133 7) S) ⟨by omega, by omega⟩ h hS hk (show 0 ≤ (rCd (M 135) (M 133 3) (M 133 7)).2.1 ∧ (rCd (M 135) (M 133 3) (M 133 7)).2.1 ≤ 6100 by omega) K (fun R h0 h1 => ma_cd (Or.inr rfl) c0 h0 (fun N aN a7 aw x1 x2 => h1 N aN a7 aw (fun hN n5 n3 hn R' hR => ?_)))
  refine s257 ⟨⟨by omega, by omega⟩, fun h => by omega, fun h => by omega, fun h => by omega, fun h => by omega, fun h => by omega, fun h => by omega, fun h => by omega, fun h => by omega, fun h => by omega, fun h => by omega, fun h => by omega, fun h => by omega, fun h => by omega, fun h => by omega, fun h => by omega, fun h => by omega, fun h => by omega, fun h => by omega, fun h => by omega, fun h => by omega, fun h => by omega, fun h => by omega, fun h => by omega, fun h => by omega, fun h => by omega, fun h => by omega, fun h => by omega, fun h => by omega, fun h => by omega, fun h => by omega, fun _ => ?_, fun h => by omega, fun h => by omega, fun h => by omega, fun h => by omega, fun h => by omega, fun h => by omega, fun h => by omega, fun h => by omega, fun h => by omega, fun h => by omega, fun h => by omega, fun h => by omega, fun h => by omega, fun h => by omega, fun h => by omega⟩
  rw [er] at x2
  have et : (rq_mark (M 135) (M 133 3) (M 133 7) S).2.2 = (t_mk (v_mark S.2.1 S.1 (rBN (M 135) (M 133 3) 3 (M 133 7) 0).1 (rCd (M 135) (M 133 3) (M 133 7)).1).1, (S.1, (v_mark S.2.1 S.1 (rBN (M 135) (M 133 3) 3 (M 133 7) 0).1 (rCd (M 135) (M 133 3) (M 133 7)).1).2, S.2.2)) := rfl
  rw [et] at hR
  refine s292 ⟨⟨by omega, by omega⟩, fun h => by omega, fun h => by omega, fun h => by omega, fun h => by omega, fun h => by omega, fun h => by omega, fun h => by omega, fun h => by omega, fun h => by omega, fun h => by omega, fun h => by omega, fun h => by omega, fun h => by omega, fun h => by omega, fun h => by omega, fun h => by omega, fun h => by omega, fun _ => ?_, fun h => by omega, fun h => by omega⟩
  rw [x1, x2]
  refine sp_sayMark (d := d + 11) hN.1 hk.1 hN.2.1 hk.2.2.1 (m_ok0 n5) ⟨by omega, by omega⟩ ⟨by omega, by omega⟩ (fun T t1 t2 => s292_176 (s257_236 ?_))
  obtain ⟨r1, r2, r3⟩ := mf_pl (cs := t_mk (v_mark S.2.1 S.1 (rBN (M 135) (M 133 3) 3 (M 133 7) 0).1 (rCd (M 135) (M 133 3) (M 133 7)).1).1) hN hk n5 (Nat.le_trans t_mk_len (by omega)) t1 (fun b j b1 b2 => t2 b j b1)
  exact hR _ r1 r2 r3
theorem mw_marks {n p : Int} (h : mIn M n p) (hS : mRl M S) (hk : hOk k S) (K : ∀ M', mRl M' (fnR n S (rq_marks (M 135) n p S)).2 → mtq M' (fnR n S (rq_marks (M 135) n p S)).1 → mEnd M M' → Q (some (jI (M' 133 5))) M') : wp kc (d + 20) 219 17 [some (jR 133), none] [jI 31] M Q := by
  obtain ⟨c0, rfl, rfl, c3, c4, c5, c6⟩ := min_b h
  have nb := rBN_b (g := M 135) (e := M 133 3) (m := 3) (p := M 133 7) (w := 0) (by omega) c5
  have e10 := e3_10
  refine mw_arg (r := rq_marks (M 135) (M 133 3) (M 133 7) S) ⟨by omega, by omega⟩ h hS hk (show 0 ≤ (rBN (M 135) (M 133 3) 3 (M 133 7) 0).2.1 ∧ (rBN (M 135) (M 133 3) 3 (M 133 7) 0).2.1 ≤ 6100 by omega) K (fun R h0 h1 => ma_n3 (by omega) c0 h0 (fun N aN a7 aw x1 => h1 N aN a7 aw (fun hN n5 n3 hn R' hR => ?_)))
  refine s257 ⟨⟨by omega, by omega⟩, fun h => by omega, fun h => by omega, fun h => by omega, fun h => by omega, fun h => by omega, fun h => by omega, fun h => by omega, fun h => by omega, fun h => by omega, fun h => by omega, fun h => by omega, fun h => by omega, fun h => by omega, fun h => by omega, fun h => by omega, fun h => by omega, fun h => by omega, fun h => by omega, fun h => by omega, fun h => by omega, fun h => by omega, fun h => by omega, fun h => by omega, fun h => by omega, fun h => by omega, fun h => by omega, fun h => by omega, fun h => by omega, fun h => by omega, fun h => by omega, fun h => by omega, fun _ => ?_, fun h => by omega, fun h => by omega, fun h => by omega, fun h => by omega, fun h => by omega, fun h => by omega, fun h => by omega, fun h => by omega, fun h => by omega, fun h => by omega, fun h => by omega, fun h => by omega, fun h => by omega, fun h => by omega⟩
  refine s292 ⟨⟨by omega, by omega⟩, fun h => by omega, fun h => by omega, fun h => by omega, fun h => by omega, fun h => by omega, fun h => by omega, fun h => by omega, fun h => by omega, fun h => by omega, fun h => by omega, fun h => by omega, fun h => by omega, fun h => by omega, fun h => by omega, fun h => by omega, fun h => by omega, fun h => by omega, fun h => by omega, fun _ => ?_, fun h => by omega⟩
  rw [x1]
  refine sp_sayMarks (d := d + 11) hN.1 hk.1 hN.2.1 hk.2.2.1 hk.2.2.2.1 (m_ok0 n5) ⟨by omega, by omega⟩ (s292_187 (s257_236 ?_))
  obtain ⟨r1, r2, r3⟩ := mf_app (cs := t_mks S.2.1 S.1 (rBN (M 135) (M 133 3) 3 (M 133 7) 0).1) hN hk n5 (Nat.le_trans t_mks_len (by omega))
  exact hR _ r1 r2 r3
end MRF
