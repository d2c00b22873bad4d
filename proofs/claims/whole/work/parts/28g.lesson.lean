/-! The reference's step, solve and lesson. -/
theorem s_ok_lt {Z : PZ} (ho : pz_ok Z) {S : Nat → Nat} (h : s_ok Z S) : sLt Z S := fun c hc => by
  have h9 := pz_n ho
  exact (h c (by omega)).1 hc
/-- the word of an end -/
def eW (e : Int) : List Int := if e = 1 then wls 126922398262628 else if e = 0 then wls 495875089259 else wls 108243635103086
noncomputable def tSolve (Z : PZ) (S : Nat → Nat) : List Int := eW (endZ Z (sRn Z 37 S).1) ++ (32 :: dgs (sCt (sRn Z 37 S) 1 : Nat)) ++ (32 :: dgs (sCt (sRn Z 37 S) 2 : Nat)) ++ (32 :: dgs (sCt (sRn Z 37 S) 3 : Nat))
noncomputable def tLes (Z : PZ) : List Int := tGvs Z ++ (sRn Z 37 (s_first Z)).2.2.2.2 ++ (if endZ Z (sRn Z 37 (s_first Z)).1 = 1 then tLeaf Z (sRn Z 37 (s_first Z)).1 else []) ++ (if 0 < endZ Z (sRn Z 37 (s_first Z)).1 then tDone [] else [])
noncomputable def tLesson (Z : PZ) : List Int := if (tLes Z).length ≤ 3000 then (if (tLes Z).length = 0 then [46] else tLes Z) else tLong
theorem sCt_b {Z : PZ} {S : Nat → Nat} (k i : Nat) : sCt (sRn Z k S) i ≤ k := by
  obtain ⟨h1, h2, h3⟩ := sRn_cnt (Z := Z) k S
  unfold sCt
  split
  · exact h1
  · split
    · exact h2
    · exact h3
theorem endZ_b {Z : PZ} {S : Nat → Nat} : 0 ≤ endZ Z S ∧ endZ Z S ≤ 2 := by
  unfold endZ
  split
  · omega
  · split <;> omega
theorem eW_l {e : Int} : (eW e).length ≤ 8 := by
  unfold eW
  split
  · exact wls_l8
  · split <;> exact wls_l8
theorem tGvs_72 {Z : PZ} (ho : pz_ok Z) : (tGvs Z).length ≤ 72 := by
  have h9 := pz_n ho
  rw [tGvs_r]
  have := tG_len (Z := Z) (Z.1 * Z.2.1).toNat 0 (by omega)
  omega
section MLS
variable {kc : List va_E} {d : Nat} {Q : Option fx_V → fx_M → Prop} {Z : PZ} {S : Nat → Nat} {V : fx_M}
theorem m_5 {M N : fx_M} (h5 : M 133 5 = 0) (h57 : M 133 57 = 0) (h : mlo M N []) : N 133 5 = 0 := by
  obtain ⟨q, -⟩ := h.ex h57 (by rw [h5]; decide)
  rw [q.1]
  exact h5
/-- before anything is written -/
theorem sp_ready {M M1 : fx_M} (h05 : M 133 5 = 0) (f1 : ∀ b j, b ≠ 156 → M1 b j = M b j) : mli (fx_up M1 133 57 0) ∧ (fx_up M1 133 57 0) 133 57 = 0 ∧ (fx_up M1 133 57 0) 133 5 = 0 ∧ mfrq M (fx_up M1 133 57 0) := by
  have e5 : (fx_up M1 133 57 0) 133 5 = 0 := by rw [fx_up_nk (by decide), f1 _ _ (by decide)]; exact h05
  have e7 : (fx_up M1 133 57 0) 133 57 = 0 := by rw [fx_up_self]
  refine ⟨⟨?_, Or.inl ⟨e7, by omega⟩⟩, e7, e5, fun b j h1 h2 h3 => ?_⟩
  · unfold m_ok
    omega
  · unfold msc at h1
    rw [fx_up_ne (by omega), f1 b j (by omega)]
theorem st_from (ho : pz_ok Z) (hS : sLt Z S) {M M1 : fx_M} (hz : mz M 0 Z) (h05 : M 133 5 = 0) (m1 : mst' M1 Z S) (f1 : ∀ b j, b ≠ 156 → M1 b j = M b j) (K : ∀ M', mfrq M M' → mtq M' (tStep Z S) → Q none M') : wp kc (d + 10) 305 4 [some (jR 133), none] [] M1 Q := by
  have h9 := pz_n ho
  have hS16 := sLt_16 ho hS
  obtain ⟨l2, e57, e5, q2⟩ := sp_ready h05 f1
  have z2 : mz (fx_up M1 133 57 0) 0 Z := mz_frM hz (fun b j h1 h2 => by rw [fx_up_ne (by omega), f1 b j (by omega)])
  have m2 : mst' (fx_up M1 133 57 0) Z S := fun q hq => by
    rw [fx_up_na (by decide)]
    exact m1 q hq
  refine s305_4 (sp_mFindStep ho hS l2 z2 m2 (fun M3 t3 m3 l3 _ x1 x2 => s305_13 ?_))
  have h3 : M3 133 5 = 0 := m_5 e5 e57 l3
  have q3 : mfrq M M3 := mfrq_tr q2 (mfrq_Tk (fTk_Ty t3))
  have hO : m_ok M3 := l3.ok.1
  have fin : ∀ M4 cs, M4 = m_app M3 cs → cs = tStep Z S → cs.length ≤ 200 → Q none M4 := fun M4 cs e ecs hl => by
    rw [e]
    refine K _ (mfrq_tr q3 (mfrq_wr mwr_app)) ?_
    rw [← ecs]
    exact mtq_mout h3 (by omega) mout_app
  by_cases hk : (fSt Z S).1 = 0
  · rw [hk]
    have hcb : -1 ≤ cCh Z S ∧ cCh Z S < ((0 + (Z.1 * Z.2.1).toNat : Nat) : Int) := cch_b _ 0 (-1) (by omega) (by omega)
    refine ⟨⟨by omega, by omega⟩, fun h => absurd rfl h, fun _ => sp_mChoice (d := d + 7) ho (mz_Ty z2 t3) m3 hS16 (s305_23 ⟨⟨by omega, by omega⟩, ?_⟩)⟩
    have w1 := wls_l8 (w := 126922398262628)
    have w2 := wls_l8 (w := 495875089259)
    by_cases hf : cCh Z S < 0
    · rw [if_pos hf]
      exact sp_sayWord (d := d + 6) (by unfold w_ok; omega) hO (s305_38 (fin _ _ rfl (by unfold tStep; rw [if_pos hk, if_pos hf]) (by omega)))
    · rw [if_neg hf]
      exact sp_sayWord (d := d + 6) (by unfold w_ok; omega) hO (s305_38 (fin _ _ rfl (by unfold tStep; rw [if_pos hk, if_neg hf]) (by omega)))
  · obtain ⟨b1, b2, b3, b4, b5, b6, b7⟩ := fSt_in ho hk
    obtain ⟨a51, a52⟩ := x1 hk
    have body : ∀ hd : List Int, hd.length ≤ 10 → hd ++ (32 :: dgs (fSt Z S).2.2.2.1) ++ (32 :: dgs ((fSt Z S).2.2.2.2 : Nat)) ++ (if (fSt Z S).1 < 3 then 32 :: dgs ((fSt Z S).2.1 : Nat) else []) ++ (if (fSt Z S).1 = 2 then 32 :: dgs (fSt Z S).2.2.1 else []) = tStep Z S → wp kc (d + 10) 305 68 [some (jR 133), some (jI ((fSt Z S).1 : Nat))] [] (m_app M3 hd) Q := fun hd hhd he => by
      have d1 := dgs_len (v := (fSt Z S).2.2.2.1)
      have d2 := dgs_len (v := ((fSt Z S).2.2.2.2 : Nat))
      have d3 := dgs_len (v := ((fSt Z S).2.1 : Nat))
      have d4 := dgs_len (v := (fSt Z S).2.2.1)
      refine s305_68 ?_
      rw [m_app_ne (b := 133) (j := 51) (by omega) (by decide), a51]
      refine sp_sayMore (d := d + 6) (m_ok_app hO) (by omega) (by omega) (s305_76 ?_)
      rw [m_app_app, m_app_ne (b := 133) (j := 52) (by omega) (by decide), a52]
      refine sp_sayMore (d := d + 6) (m_ok_app hO) (by omega) (by omega) (s305_84 ?_)
      rw [m_app_app]
      refine ⟨⟨by omega, by omega⟩, fun h3 => ?_, fun h3 => ?_⟩
      · rw [if_neg (by omega), if_neg (by omega), List.append_nil, List.append_nil] at he
        exact ⟨⟨by omega, by omega⟩, fun _ => fin _ _ rfl he (by simp only [List.length_append, List.length_cons]; omega), fun h => by omega⟩
      · rw [if_pos (by omega)] at he
        obtain ⟨R, g1, g2, g3⟩ := b6 (by omega)
        have hr12 := (rule_in ho g1).2
        obtain ⟨x3, x4, -⟩ := x2 (by omega)
        rw [m_app_ne (b := 133) (j := 53) (by omega) (by decide), x3]
        refine sp_sayMore (d := d + 6) (m_ok_app hO) (by omega) (by omega) (s305_97 ?_)
        rw [m_app_app]
        refine ⟨⟨by omega, by omega⟩, fun hn2 => ?_, fun h2 => ?_⟩
        · rw [if_neg (by omega), List.append_nil] at he
          exact fin _ _ rfl he (by simp only [List.length_append, List.length_cons]; omega)
        · have hk2 : (fSt Z S).1 = 2 := by omega
          rw [if_pos hk2] at he
          have hq := fSt_q ho hk2
          rw [m_app_ne (b := 133) (j := 54) (by omega) (by decide), x4]
          refine sp_sayMore (d := d + 6) (m_ok_app hO) (by omega) (by omega) (s305_110 ?_)
          rw [m_app_app]
          exact fin _ _ rfl he (by simp only [List.length_append, List.length_cons]; omega)
    have w1 := wls_l8 (w := 7302757)
    have w2 := wls_l8 (w := 7632751)
    have w3 := wls_l8 (w := 7631481)
    have tw : tStep Z S = (if (fSt Z S).1 = 1 then wls 7302757 else if (fSt Z S).1 = 2 then wls 7632751 else wls 7631481) ++ (32 :: dgs (fSt Z S).2.2.2.1) ++ (32 :: dgs ((fSt Z S).2.2.2.2 : Nat)) ++ (if (fSt Z S).1 < 3 then 32 :: dgs ((fSt Z S).2.1 : Nat) else []) ++ (if (fSt Z S).1 = 2 then 32 :: dgs (fSt Z S).2.2.1 else []) := by
      unfold tStep
      rw [if_neg hk]
    refine ⟨⟨by omega, by omega⟩, fun _ => ⟨⟨by omega, by omega⟩, fun _ => ⟨by omega, by omega⟩, ?_⟩, fun h => by omega⟩
    have hk3 : (fSt Z S).1 = 1 ∨ (fSt Z S).1 = 2 ∨ (fSt Z S).1 = 3 := by omega
    rcases hk3 with e | e | e
    · rw [if_pos (show (((fSt Z S).1 : Nat) : Int) = 1 by omega)]
      refine sp_sayWord (d := d + 6) (by unfold w_ok; omega) hO (body _ (by omega) ?_)
      rw [tw, show (if (fSt Z S).1 = 1 then wls 7302757 else if (fSt Z S).1 = 2 then wls 7632751 else wls 7631481) = wls 7302757 by rw [if_pos e]]
    · rw [if_neg (show ¬ (((fSt Z S).1 : Nat) : Int) = 1 by omega), if_pos (show (((fSt Z S).1 : Nat) : Int) = 2 by omega)]
      refine sp_sayWord (d := d + 6) (by unfold w_ok; omega) hO (body _ (by omega) ?_)
      rw [tw, show (if (fSt Z S).1 = 1 then wls 7302757 else if (fSt Z S).1 = 2 then wls 7632751 else wls 7631481) = wls 7632751 by rw [if_neg (by omega), if_pos e]]
    · rw [if_neg (show ¬ (((fSt Z S).1 : Nat) : Int) = 1 by omega), if_neg (show ¬ (((fSt Z S).1 : Nat) : Int) = 2 by omega)]
      refine sp_sayWord (d := d + 6) (by unfold w_ok; omega) hO (body _ (by omega) ?_)
      rw [tw, show (if (fSt Z S).1 = 1 then wls 7302757 else if (fSt Z S).1 = 2 then wls 7632751 else wls 7631481) = wls 7631481 by rw [if_neg (by omega), if_neg (by omega)]]
theorem sp_sayStep (ho : pz_ok Z) {M : fx_M} (hz : mz M 0 Z) (hv : mpv M V) (hvo : pv_ok V) (hi : pv_in V Z) (h05 : M 133 5 = 0) (K : ∀ M', mfrq M M' → mtq M' (tStep Z (s_play Z V)) → Q none M') : wc kc (d + 10) 305 [jR 133] M Q :=
  s305 (sp_standForPlay (d := d + 6) ho hz hv hvo hi (fun _ m1 f1 => st_from ho (s_ok_lt ho (s_play_ok ho hvo hi)) hz h05 m1 f1 K))
theorem sv_from (ho : pz_ok Z) (hS : sLt Z S) {M M1 : fx_M} (hz : mz M 0 Z) (h05 : M 133 5 = 0) (m1 : mst' M1 Z S) (f1 : ∀ b j, b ≠ 156 → M1 b j = M b j) (K : ∀ M', mfrq M M' → mtq M' (tSolve Z S) → Q none M') : wp kc (d + 11) 321 4 [some (jR 133), none] [] M1 Q := by
  obtain ⟨l2, e57, e5, q2⟩ := sp_ready h05 f1
  have z2 : mz (fx_up M1 133 57 0) 0 Z := mz_frM hz (fun b j h1 h2 => by rw [fx_up_ne (by omega), f1 b j (by omega)])
  have m2 : mst' (fx_up M1 133 57 0) Z S := fun q hq => by
    rw [fx_up_na (by decide)]
    exact m1 q hq
  refine s321_4 (sp_takeSteps ho hS l2 e57 z2 m2 (p := 0) ⟨by omega, by omega⟩ (fun M3 t3 l3 r3 => s321_14 ?_))
  rw [if_neg (by decide)] at l3
  have h3 : M3 133 5 = 0 := m_5 e5 e57 l3
  have h357 : M3 133 57 = 0 := (l3.ex e57 (by rw [e5]; decide)).2
  obtain ⟨-, -, r69, rn⟩ := r3 h357
  have q3 : mfrq M M3 := mfrq_tr q2 (mfrq_Tk t3)
  have hO : m_ok M3 := l3.ok.1
  have he := endZ_b (Z := Z) (S := (sRn Z 37 S).1)
  have n1 := sCt_b (Z := Z) (S := S) 37 1
  have n2 := sCt_b (Z := Z) (S := S) 37 2
  have n3 := sCt_b (Z := Z) (S := S) 37 3
  rw [r69]
  have st : ∀ (i : Nat) (ds : List Int), 1 ≤ i → i ≤ 3 → wp kc (d + 11) 321 50 [some (jR 133), some (jI ((i + 1 : Nat) : Int))] [] (m_app M3 (ds ++ (32 :: dgs (sCt (sRn Z 37 S) i : Nat)))) Q → wp kc (d + 11) 321 50 [some (jR 133), some (jI (i : Int))] [] (m_app M3 ds) Q := fun i ds i1 i3 h => by
    have nb := sCt_b (Z := Z) (S := S) 37 i
    refine s321_50 ⟨⟨by omega, by omega⟩, fun h => by omega, fun _ => ⟨⟨by omega, by omega⟩, ?_⟩⟩
    rw [m_app_ne (b := 166) (j := (i : Int)) (by omega) (by decide), rn i i1 i3]
    refine sp_sayMore (d := d + 7) (m_ok_app hO) (by omega) (by omega) (s321_65 ?_)
    rw [m_app_app]
    rw [show ((i + 1 : Nat) : Int) = (i : Int) + 1 by omega] at h
    exact h
  have body : wp kc (d + 11) 321 48 [some (jR 133), none] [] (m_app M3 (eW (endZ Z (sRn Z 37 S).1))) Q := by
    refine s321_48 (st 1 _ (by omega) (by omega) (st 2 _ (by omega) (by omega) (st 3 _ (by omega) (by omega) (s321_50 ⟨⟨by omega, by omega⟩, fun _ => K _ (mfrq_tr q3 (mfrq_wr mwr_app)) ?_, fun h => by omega⟩))))
    have d1 := dgs_len (v := (sCt (sRn Z 37 S) 1 : Nat))
    have d2 := dgs_len (v := (sCt (sRn Z 37 S) 2 : Nat))
    have d3 := dgs_len (v := (sCt (sRn Z 37 S) 3 : Nat))
    have w1 := eW_l (e := endZ Z (sRn Z 37 S).1)
    exact mtq_mout h3 (by unfold tSolve; simp only [List.length_append, List.length_cons]; omega) mout_app
  refine ⟨⟨by omega, by omega⟩, fun _ => ⟨by omega, by omega⟩, ?_⟩
  unfold eW at body
  by_cases c1 : endZ Z (sRn Z 37 S).1 = 1
  · rw [if_pos c1]
    rw [if_pos c1] at body
    exact sp_sayWord (d := d + 7) (by unfold w_ok; omega) hO body
  · rw [if_neg c1]
    rw [if_neg c1] at body
    by_cases c0 : endZ Z (sRn Z 37 S).1 = 0
    · rw [if_pos c0]
      rw [if_pos c0] at body
      exact sp_sayWord (d := d + 7) (by unfold w_ok; omega) hO body
    · rw [if_neg c0]
      rw [if_neg c0] at body
      exact sp_sayWord (d := d + 7) (by unfold w_ok; omega) hO body
theorem sp_saySolve (ho : pz_ok Z) {M : fx_M} (hz : mz M 0 Z) (hv : mpv M V) (hvo : pv_ok V) (hi : pv_in V Z) (h05 : M 133 5 = 0) (K : ∀ M', mfrq M M' → mtq M' (tSolve Z (s_play Z V)) → Q none M') : wc kc (d + 11) 321 [jR 133] M Q :=
  s321 (sp_standForPlay (d := d + 7) ho hz hv hvo hi (fun _ m1 f1 => sv_from ho (s_ok_lt ho (s_play_ok ho hvo hi)) hz h05 m1 f1 K))
/-- the end of a lesson -/
theorem ls_end {M M1 M6 : fx_M} {T : List Int} (h05 : M 133 5 = 0) (e5 : M1 133 5 = 0) (e57 : M1 133 57 = 0) (hT : T = tLes Z) (h : mlo M1 M6 T) (hq : mfrq M M6) (K : ∀ M', mfrq M M' → mtq M' (tLesson Z) → Q none M') : (fx_in32 (M6 133 57)) ∧ (M6 133 57 = 0 → (fx_in32 (M6 133 5)) ∧ (M6 133 5 ≠ 0 → Q none M6) ∧ (M6 133 5 = 0 → wc kc (d + 10) 254 [jR 133, jI 46] M6 (fun v M1 => wp kc (d + 11) 410 88 [none] (v.toList ++ []) M1 Q))) ∧ (M6 133 57 ≠ 0 → wc kc (d + 10) 390 [jR 133] M6 (fun v M1 => wp kc (d + 11) 410 72 [none] (v.toList ++ []) M1 Q)) := by
  unfold tLesson at K
  rw [← hT] at K
  have hO := h.ok.1
  have hO' := hO
  unfold m_ok at hO'
  by_cases hl : T.length ≤ 3000
  · obtain ⟨o6, h57⟩ := h.ex e57 (by omega)
    have t6 : mtq M6 T := mtq_mout e5 (by omega) o6
    rw [if_pos hl] at K
    refine ⟨by rw [h57]; exact ⟨by omega, by omega⟩, fun _ => ⟨⟨by omega, by omega⟩, fun hn => ?_, fun h0 => ?_⟩, fun hn => absurd h57 hn⟩
    · rw [if_neg (by have := t6.1; omega)] at K
      exact K M6 hq t6
    · rw [if_pos (by have := t6.1; omega)] at K
      exact sp_sayByte (d := d + 9) hO (s410_88 (K _ (mfrq_tr hq (mfrq_wr mwr_put)) (mtq_mout h0 (by decide) (mout_app (M := M6) (cs := [46])))))
  · have h57 := h.ov e57 (by omega)
    rw [if_neg hl] at K
    exact ⟨by rw [h57]; exact ⟨by omega, by omega⟩, fun h0 => by omega, fun _ => sp_sayLong (d := d + 6) (fun M7 f7 t7 => s410_72 (K M7 (mfrq_tr hq (fun b j _ h2 h3 => f7 b j h2 h3)) t7))⟩
theorem sp_sayLesson (ho : pz_ok Z) {M : fx_M} (hz : mz M 0 Z) (h05 : M 133 5 = 0) (K : ∀ M', mfrq M M' → mtq M' (tLesson Z) → Q none M') : wc kc (d + 11) 410 [jR 133] M Q := by
  have h9 := pz_n ho
  obtain ⟨l1, e57, e5, q1⟩ := sp_ready (M := M) (M1 := M) h05 (fun _ _ _ => rfl)
  have z1 : mz (fx_up M 133 57 0) 0 Z := mz_frM hz (fun b j h1 h2 => by rw [fx_up_ne (by omega)])
  have hg := tGvs_72 ho
  refine s410 (sp_sayGivens (d := d + 6) ho e5 e57 z1 (fun M2 o2 h257 f2 => s410_9 (sp_stand (d := d + 8) ho (mz_frM z1 (fun b j h1 h2 => f2 b j (by omega) (by omega))) (fun M3 m3 f3 => s410_13 ?_))))
  have h25 : M2 133 5 = (tGvs Z).length := by
    have := (mtq_mout e5 (by omega) o2).1
    exact this
  have l2 : mlo (fx_up M 133 57 0) M2 (tGvs Z) := by
    refine ⟨⟨?_, Or.inl ⟨h257, by omega⟩⟩, fun _ _ => ⟨o2, h257⟩, fun _ h => by omega, fun h => by omega⟩
    unfold m_ok
    omega
  have l3 : mlo (fx_up M 133 57 0) M3 (tGvs Z) := mlo_0 (mlo_tr l1 l2 (mlo_fr l2.ok (f3 _ _ (by decide)) (f3 _ _ (by decide)) (fun j => f3 _ _ (by decide))))
  have z3 : mz M3 0 Z := mz_frM z1 (fun b j h1 h2 => by rw [f3 b j (by omega), f2 b j (by omega) (by omega)])
  have h357 : M3 133 57 = 0 := by rw [f3 _ _ (by decide)]; exact h257
  have q3 : mfrq M M3 := mfrq_tr q1 (fun b j a1 a2 a3 => by
    unfold msc at a1
    rw [f3 b j (by omega), f2 b j a2 (by omega)])
  refine sp_takeSteps ho (s_first_lt ho) l3.ok h357 z3 m3 (p := 1) ⟨by omega, by omega⟩ (fun M4 t4 l4 r4 => s410_18 ?_)
  rw [if_pos rfl] at l4
  have l04 := mlo_tr l1 l3 l4
  have q4 : mfrq M M4 := mfrq_tr q3 (mfrq_Tk t4)
  have he := endZ_b (Z := Z) (S := (sRn Z 37 (s_first Z)).1)
  have hO4 := l4.ok.1
  have in57 : ∀ {N : fx_M}, mli N → fx_in32 (N 133 57) := fun h => by
    rcases h.2 with ⟨h, _⟩ | h <;> rw [h] <;> exact ⟨by omega, by omega⟩
  -- a text that is long already
  have long : ∀ {N : fx_M} {cs ds : List Int}, mlo (fx_up M 133 57 0) N cs → N 133 57 = 1 → cs ++ ds = tLes Z → mlo (fx_up M 133 57 0) N (tLes Z) := fun h h1 e => by
    rw [← e]
    exact mlo_more e57 h h1
  rcases l4.ok.2 with ⟨h457, h45⟩ | h457
  · obtain ⟨m4, s4, r69, -⟩ := r4 h457
    rw [r69]
    -- the last line
    have last : ∀ (N : fx_M) (cs : List Int), mlo (fx_up M 133 57 0) N cs → N 133 57 = 0 → mfrq M N → cs ++ tDone [] = tLes Z → wc kc (d + 10) 254 [jR 133, jI 117] N (fun v M1 => wp kc (d + 11) 410 57 [some (jR 133)] (v.toList ++ []) M1 Q) := fun N cs hl h0 hq e => by
      refine sp_sayByte (d := d + 9) hl.ok.1 (s410_57 (sp_endLine (d := d + 8) (m_ok_put hl.ok.1) (by rw [show m_put N 117 = m_app N [117] from rfl, m_app_ne (by omega) (by decide)]; exact h0) (s410_61 ?_)))
      rw [show m_put N 117 = m_app N [117] from rfl, m_app_app]
      exact ls_end h05 e5 e57 e (mlo_tr l1 hl (mlo_line hl.ok h0)) (mfrq_tr hq (fun b j a1 a2 a3 => by
        unfold msc at a1
        exact fLn_up b j a2 (by omega))) K
    by_cases c1 : endZ Z (sRn Z 37 (s_first Z)).1 = 1
    · have eT : tGvs Z ++ (sRn Z 37 (s_first Z)).2.2.2.2 ++ tLeaf Z (sRn Z 37 (s_first Z)).1 ++ tDone [] = tLes Z := by
        unfold tLes
        rw [if_pos c1, if_pos (by omega)]
      have hnb : ¬ brk Z (sRn Z 37 (s_first Z)).1 := fun hb => by
        unfold endZ at c1
        rw [if_pos hb] at c1
        omega
      rw [c1]
      refine ⟨in57 l4.ok, fun h => absurd h457 h, fun _ => ⟨⟨by omega, by omega⟩, fun h => absurd rfl h, fun _ => ?_⟩⟩
      refine sp_sayLeaf (d := d + 6) ho (mz_Tk z3 t4) m4 (fun c hc => ⟨sLt_16 ho s4 c hc, fun h0 => hnb (brk_iff.mpr ⟨c, hc, h0⟩)⟩) l4.ok h457 (fun M5 l5 f5 => s410_37 ?_)
      have l05 := mlo_tr l1 l04 l5
      have q5 : mfrq M M5 := mfrq_tr q4 (fun b j a1 a2 a3 => by
        unfold msc at a1
        exact f5 b j a2 (by omega))
      have r569 : M5 133 69 = 1 := by
        rw [f5 _ _ (by decide) (by omega), r69]
        exact c1
      rcases l5.ok.2 with ⟨h557, h55⟩ | h557
      · rw [r569]
        exact ⟨in57 l5.ok, fun h => absurd h557 h, fun _ => ⟨⟨by omega, by omega⟩, fun h => by omega, fun _ => last M5 _ l05 h557 q5 eT⟩⟩
      · exact ⟨in57 l5.ok, fun _ => ls_end h05 e5 e57 rfl (long l05 h557 eT) q5 K, fun h => by omega⟩
    · by_cases c0 : endZ Z (sRn Z 37 (s_first Z)).1 = 0
      · have eT : tGvs Z ++ (sRn Z 37 (s_first Z)).2.2.2.2 = tLes Z := by
          unfold tLes
          rw [if_neg c1, if_neg (by omega), List.append_nil, List.append_nil]
        rw [c0]
        exact ⟨in57 l4.ok, fun h => absurd h457 h, fun _ => ⟨⟨by omega, by omega⟩, fun _ => ⟨in57 l4.ok, fun h => absurd h457 h, fun _ => ⟨⟨by omega, by omega⟩, fun _ => ls_end h05 e5 e57 eT l04 q4 K, fun h => by omega⟩⟩, fun h => by omega⟩⟩
      · have eT : tGvs Z ++ (sRn Z 37 (s_first Z)).2.2.2.2 ++ tDone [] = tLes Z := by
          unfold tLes
          rw [if_neg c1, if_pos (by omega), List.append_nil]
        exact ⟨in57 l4.ok, fun h => absurd h457 h, fun _ => ⟨⟨by omega, by omega⟩, fun _ => ⟨in57 l4.ok, fun h => absurd h457 h, fun _ => ⟨⟨by omega, by omega⟩, fun h => by omega, fun _ => last M4 _ l04 h457 q4 eT⟩⟩, fun h => absurd h c1⟩⟩
  · have eT : (tGvs Z ++ (sRn Z 37 (s_first Z)).2.2.2.2) ++ ((if endZ Z (sRn Z 37 (s_first Z)).1 = 1 then tLeaf Z (sRn Z 37 (s_first Z)).1 else []) ++ (if 0 < endZ Z (sRn Z 37 (s_first Z)).1 then tDone [] else [])) = tLes Z := by
      unfold tLes
      simp only [List.append_assoc]
    exact ⟨in57 l4.ok, fun _ => ⟨in57 l4.ok, fun _ => ls_end h05 e5 e57 rfl (long l04 h457 eT) q4 K, fun h => by omega⟩, fun h => by omega⟩
end MLS
