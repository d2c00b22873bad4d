/-! The class's findStep; step of both. -/
theorem pow_ne : ∀ (m : Fin 16) (y : Fin 4), (m : Nat).testBit (y : Nat) = true → ((m : Nat) = 2 ^ (y : Nat) ↔ ¬ 1 < pop4 (m : Nat)) := by decide +kernel
section CFS
variable {L : Nat} {xs : Nat → Int32} {d : Nat} {Q : Option fx_V → fx_M → Prop} {Z : PZ} {S : Nat → Nat}
/-- what findStep of the class may change -/
def fSc (M N : fx_M) : Prop := ∀ b j, ¬ (b = 31 ∧ (3 ≤ j ∧ j ≤ 7)) → N b j = M b j
theorem fSc_tr {M N O : fx_M} (h1 : fSc M N) (h2 : fSc N O) : fSc M O := fun b j a => (h2 b j a).trans (h1 b j a)
theorem fSc_rf {M : fx_M} : fSc M M := fun _ _ _ => rfl
theorem ctr_loop (ho : pz_ok Z) {M0 : fx_M} (hc0 : ckn M0 11 Z) (hO : o_ok M0 3) (hs : s_ok Z S) (hnb : ¬ brk Z S) {v w : Int} (hv : sta v S) (hw : 0 ≤ w ∧ w ≤ 1) (h2 : M0 31 2 = w) (K1 : ∀ c y, fTr Z S (4 * (Z.1 * Z.2.1).toNat) 0 = some (c, y) → ∀ M', fSc M0 M' → M' 31 5 = (c : Int) → M' 31 6 = (y : Int) → Q (some (jI 3)) M') (K0 : fTr Z S (4 * (Z.1 * Z.2.1).toNat) 0 = none → ∀ M', fSc M0 M' → Q (some (jI 0)) M') : ∀ (t i : Nat) (M : fx_M), i + t = 4 * (Z.1 * Z.2.1).toNat → (∀ b j, ¬ (b = 31 ∧ (2 ≤ j ∧ j ≤ 7)) → M b j = M0 b j) → M 31 2 = 0 → fTr Z S (4 * (Z.1 * Z.2.1).toNat) 0 = fTr Z S t i → wp (kcs L xs) (d + 5) 139 36 [some (jR 31), some (jL v), none, some (jI w), some (jI 0), some (jI i), none, none, none] [] M Q := by
  have h9 := pz_n ho
  -- the end: writing is again as it was
  have back : ∀ M, (∀ b j, ¬ (b = 31 ∧ (2 ≤ j ∧ j ≤ 7)) → M b j = M0 b j) → fSc M0 (fx_up M 31 2 w) := fun M hf b j hb => by
    by_cases e : b = 31 ∧ j = 2
    · obtain ⟨rfl, rfl⟩ := e
      rw [fx_up_self, h2]
    · rw [fx_up_ne e]
      exact hf b j (by omega)
  intro t
  induction t with
  | zero =>
    intro i M hi hf hm2 he
    refine s139_36 ?_
    rw [hf 11 2 (by omega), hc0.1.2.2.1]
    exact ⟨⟨⟨by omega, by omega⟩, ⟨by omega, by omega⟩⟩, fun _ => ⟨hw, K0 (he.trans rfl) _ (back M hf)⟩, fun h => by omega⟩
  | succ t ih =>
    intro i M hi hf hm2 he
    have hi4 : i / 4 < 10 := by omega
    have h16 := s_ok_16 ho hs (c := i / 4) hi4
    have e1 : fx_shr (i : Int) 2 = ((i / 4 : Nat) : Int) := by
      rw [fx_shr_eq ⟨by omega, by omega⟩ ⟨by omega, by omega⟩]
      show (i : Int) / ((2 ^ 2 : Nat) : Int) = _
      omega
    have e2 : fx_and (i : Int) 3 = ((i % 4 : Nat) : Int) := by
      rw [fx_and_3]
      omega
    have hst := fTr_step (Z := Z) (S := S) (t := t) (i := i)
    have go : ¬ tryP Z S (i / 4) (i % 4) → ∀ M', (∀ b j, ¬ (b = 31 ∧ (2 ≤ j ∧ j ≤ 7)) → M' b j = M0 b j) → M' 31 2 = 0 → wp (kcs L xs) (d + 5) 139 36 [some (jR 31), some (jL v), none, some (jI w), some (jI 0), some (jI ((i : Int) + 1)), none, none, none] [] M' Q := fun hn M' hf' hm' => by
      have nx := ih (i + 1) M' (by omega) hf' hm' (by rw [he, hst.2 hn])
      rw [show ((i + 1 : Nat) : Int) = (i : Int) + 1 by omega] at nx
      exact nx
    have hb := sm_bit ⟨S (i / 4), h16⟩ ⟨i % 4, by omega⟩
    simp only at hb
    refine s139_36 ?_
    rw [hf 11 2 (by omega), hc0.1.2.2.1, e1, e2]
    refine ⟨⟨⟨by omega, by omega⟩, ⟨by omega, by omega⟩⟩, fun h => by omega, fun _ => ⟨⟨by omega, by omega⟩, fun h => absurd rfl h, fun _ => sp_may hv ⟨by omega, by omega⟩ (by rw [Int.toNat_natCast]; exact h16) (s139_73 ?_)⟩⟩
    rw [Int.toNat_natCast, hb]
    by_cases hbt : (S (i / 4)).testBit (i % 4) = true
    · rw [if_pos hbt]
      have hpn := pow_ne ⟨S (i / 4), h16⟩ ⟨i % 4, by omega⟩ hbt
      simp only at hpn
      have hp16 := pow_16 ⟨i % 4, by omega⟩
      simp only at hp16
      rw [fx_shl_1 ⟨by omega, by omega⟩, Int.toNat_natCast]
      refine ⟨⟨by omega, by omega⟩, fun h => by omega, fun _ => ⟨⟨⟨by omega, by omega⟩, ⟨Int.le_trans (by omega) (Int.natCast_nonneg _), by omega⟩⟩, fun heq => go (fun hp => ?_) M hf hm2, fun hne => ?_⟩⟩
      · have h3 : S (i / 4) = 2 ^ (i % 4) := by exact_mod_cast heq
        exact hpn.mp h3 hp.2.1
      · have hp1 : 1 < pop4 (S (i / 4)) := Classical.byContradiction fun hn => hne (by rw [hpn.mpr hn])
        have hcn : ((i / 4 : Nat) : Int) < Z.1 * Z.2.1 := by omega
        have hysym : ((i % 4 : Nat) : Int) < Z.2.2.1 := by
          have := bit_lt ((hs (i / 4) hi4).1 hcn) hbt
          have h1 := ho.2.2.2.2.1
          omega
        have hs1 := s_only_ok hs hcn hysym
        have hnb1 : ¬ brk Z (s_only S (i / 4) (i % 4)) := fun h => by
          obtain ⟨x, hx1, hx2⟩ := brk_iff.mp h
          unfold s_only at hx2
          split at hx2
          · have : 0 < 2 ^ (i % 4) := Nat.pow_pos (by decide)
            omega
          · exact hnb (brk_iff.mpr ⟨x, hx1, hx2⟩)
        refine sp_only hv ⟨by omega, by omega⟩ ⟨by omega, by omega⟩ (fun u hu => s139_103 ?_)
        rw [Int.toNat_natCast, Int.toNat_natCast] at hu
        have hc1 : ckn M 11 Z := ckn_fr hc0 (fun b j h1 h2 => hf b j (by omega))
        have hO1 : o_ok M 3 := by
          unfold o_ok at hO ⊢
          rw [hf 3 1 (by omega)]
          exact hO
        refine sp_goOn (w := 0) ho ⟨by omega, by omega⟩ hnb1 hs1 hu hc1 hm2 hO1 (fun M2 v2 f2 hv2 hs2 e7 o2 => s139_106 (sp_isBroken ho hs2 hv2 (s139_109 ?_)))
        rw [if_neg (by decide)] at o2
        have hO1b := hO1
        unfold o_ok at hO1b
        rw [fx_ol3] at hO1b
        obtain ⟨o3, o4⟩ := o2.ex (by simp; omega)
        have f3 : ∀ b j, ¬ (b = 31 ∧ (2 ≤ j ∧ j ≤ 7)) → M2 b j = M0 b j := fun b j hb' => by
          by_cases h31 : b = 3 ∧ j = 1
          · obtain ⟨rfl, rfl⟩ := h31
            rw [o3]
            exact hf 3 1 (by omega)
          · by_cases h4 : b = 4
            · subst h4
              rw [o4]
              exact hf 4 j (by omega)
            · rw [f2 b j (by omega) h31 h4]
              exact hf b j hb'
        have hm2' : M2 31 2 = 0 := by rw [f2 _ _ (by omega) (by omega) (by decide)]; exact hm2
        by_cases hbk : brk Z (gOn Z 37 (s_only S (i / 4) (i % 4))).1
        · rw [if_pos hbk]
          refine ⟨⟨by omega, by omega⟩, fun h => by omega, fun _ => ?_⟩
          have fu : ∀ b j, ¬ (b = 31 ∧ (j = 5 ∨ j = 6)) → (fx_up (fx_up M2 31 5 ((i / 4 : Nat) : Int)) 31 6 ((i % 4 : Nat) : Int)) b j = M2 b j := fun b j hb => by rw [fx_up_ne (by omega), fx_up_ne (by omega)]
          have hf4 : ∀ b j, ¬ (b = 31 ∧ (2 ≤ j ∧ j ≤ 7)) → (fx_up (fx_up M2 31 5 ((i / 4 : Nat) : Int)) 31 6 ((i % 4 : Nat) : Int)) b j = M0 b j := fun b j hb => by rw [fu b j (by omega)]; exact f3 b j hb
          have hK := K1 (i / 4) (i % 4) (by rw [he]; exact hst.1 ⟨hbt, hp1, hbk⟩) _ (back _ hf4) (by rw [fx_up_nk (by decide), fx_up_nk (by decide), fx_up_self]) (by rw [fx_up_nk (by decide), fx_up_self])
          refine s139_36 ?_
          rw [fu 11 2 (by omega), f3 11 2 (by omega), hc0.1.2.2.1]
          exact ⟨⟨⟨by omega, by omega⟩, ⟨by omega, by omega⟩⟩, fun _ => ⟨hw, hK⟩, fun _ => ⟨⟨by omega, by omega⟩, fun _ => ⟨hw, hK⟩, fun h => by omega⟩⟩
        · rw [if_neg hbk]
          exact ⟨⟨by omega, by omega⟩, fun _ => go (fun hp => hbk hp.2.2) M2 f3 hm2', fun h => absurd rfl h⟩
    · rw [if_neg hbt]
      exact ⟨⟨by omega, by omega⟩, fun _ => go (fun hp => hbt hp.1) M hf hm2, fun h => absurd rfl h⟩
theorem sp_cFindStep (ho : pz_ok Z) {M : fx_M} (hc : ckn M 11 Z) (hO : o_ok M 3) (hs : s_ok Z S) (hnb : ¬ brk Z S) {v w : Int} (hv : sta v S) (hw : 0 ≤ w ∧ w ≤ 1) (h2 : M 31 2 = w) (K : ∀ M', fSc M M' → ((fSt Z S).1 ≠ 0 → M' 31 5 = (fSt Z S).2.2.2.1 ∧ M' 31 6 = ((fSt Z S).2.2.2.2 : Nat)) → ((fSt Z S).1 = 1 ∨ (fSt Z S).1 = 2 → M' 31 3 = ((fSt Z S).2.1 : Nat)) → ((fSt Z S).1 = 2 → M' 31 4 = (fSt Z S).2.2.1) → Q (some (jI ((fSt Z S).1 : Nat))) M') : wc (kcs L xs) (d + 14) 139 [jR 31, jL v] M Q := by
  refine s139 (sp_findOne (d := d + 10) ho hc hs hv (fun r R c y e hR M1 f1 a3 a5 a6 => s139_5 ?_) (fun e => s139_5 ?_))
  · have ev : fSt Z S = (1, r, -1, c, y) := by
      unfold fSt
      rw [e]
    rw [ev] at K
    exact ⟨⟨by omega, by omega⟩, fun h => by omega, fun _ => K M1 (fun b j hb => f1 b j (by omega)) (fun _ => ⟨a5, a6⟩) (fun _ => a3) (fun h => by cases h)⟩
  · refine ⟨⟨by omega, by omega⟩, fun _ => sp_cFindTwo ho hc hs hv (fun r q R R2 c y e2 hR hR2 M1 f1 a3 a4 a5 a6 => s139_15 ?_) (fun e2 => s139_15 ?_), fun h => absurd rfl h⟩
    · have ev : fSt Z S = (2, r, (q : Int), c, y) := by
        unfold fSt
        rw [e, e2]
      rw [ev] at K
      exact ⟨⟨by omega, by omega⟩, fun h => by omega, fun _ => K M1 (fun b j hb => f1 b j (by omega)) (fun _ => ⟨a5, a6⟩) (fun _ => a3) (fun _ => a4)⟩
    · refine ⟨⟨by omega, by omega⟩, fun _ => ?_, fun h => absurd rfl h⟩
      rw [h2]
      refine ctr_loop (d := d + 9) (M0 := M) ho hc hO hs hnb hv hw h2 (fun c y e3 M1 f1 a5 a6 => ?_) (fun e3 M1 f1 => ?_) (4 * (Z.1 * Z.2.1).toNat) 0 _ (by omega) (fun b j hb => fx_up_ne (by omega)) (by rw [fx_up_self]) rfl
      · have ev : fSt Z S = (3, 0, -1, (c : Int), y) := by
          unfold fSt
          rw [e, e2, e3]
        rw [ev] at K
        exact K M1 f1 (fun _ => ⟨a5, a6⟩) (fun h => by rcases h with h | h <;> cases h) (fun h => by cases h)
      · have ev : fSt Z S = (0, 0, -1, 0, 0) := by
          unfold fSt
          rw [e, e2, e3]
        rw [ev] at K
        exact K M1 f1 (fun h => absurd rfl h) (fun h => by rcases h with h | h <;> cases h) (fun h => by cases h)
/-- step -/
noncomputable def tStep (Z : PZ) (S : Nat → Nat) : List Int := if (fSt Z S).1 = 0 then (if cCh Z S < 0 then wls 126922398262628 else wls 495875089259) else (if (fSt Z S).1 = 1 then wls 7302757 else if (fSt Z S).1 = 2 then wls 7632751 else wls 7631481) ++ (32 :: dgs (fSt Z S).2.2.2.1) ++ (32 :: dgs ((fSt Z S).2.2.2.2 : Nat)) ++ (if (fSt Z S).1 < 3 then 32 :: dgs ((fSt Z S).2.1 : Nat) else []) ++ (if (fSt Z S).1 = 2 then 32 :: dgs (fSt Z S).2.2.1 else [])
theorem fSt_q (ho : pz_ok Z) (h : (fSt Z S).1 = 2) : 0 ≤ (fSt Z S).2.2.1 ∧ (fSt Z S).2.2.1 < 12 ∧ (fSt Z S).2.1 < 12 := by
  obtain ⟨-, -, -, -, -, a6, -⟩ := fSt_in ho (S := S) (by omega)
  obtain ⟨R, b1, b2, b3⟩ := a6 (by omega)
  have hr := (rule_in ho b1).2
  rcases b2 with ⟨c1, c2, -⟩ | ⟨r2, R2, c1, c2, c3⟩
  · exfalso
    have := b3.mpr (by omega)
    omega
  · have := (rule_in ho c3).2
    omega
theorem sp_step {M : fx_M} (ho : pz_ok Z) (hc : ckn M 11 Z) (h0 : M 3 1 = 0) (hs : s_ok Z S) (hnb : ¬ brk Z S) {v : Int} (hv : sta v S) (K : ∀ M', cfrq M M' → ctx M' (tStep Z S) → Q none M') : wc (kcs L xs) (d + 16) 138 [jR 31, jL v] M Q := by
  have h9 := pz_n ho
  refine s138 (sp_startR (d := d + 14) ⟨by omega, by omega⟩ (fun M1 f1 e2 _ _ _ _ => s138_5 ?_))
  have c1 : ckn M1 11 Z := ckn_fr hc (fun b j h1 h2 => f1 b j (by omega))
  have h01 : M1 3 1 = 0 := by rw [f1 _ _ (by omega)]; exact h0
  have hO1 : o_ok M1 3 := by
    unfold o_ok
    rw [h01]
    omega
  have q1 : cfrq M M1 := fun b j h1 _ _ => f1 b j (by unfold csc at h1; omega)
  refine sp_cFindStep (d := d + 1) (w := 0) ho c1 hO1 hs hnb hv ⟨by omega, by omega⟩ e2 (fun M2 f2 a1 a2 a3 => s138_10 ?_)
  have h02 : M2 3 1 = 0 := by rw [f2 _ _ (by omega)]; exact h01
  have hO2 : o_ok M2 3 := by
    unfold o_ok
    rw [h02]
    omega
  have q2 : cfrq M M2 := cfrq_tr q1 (fun b j h1 _ _ => f2 b j (by unfold csc at h1; omega))
  -- a text at the end
  have fin : ∀ M3 cs, M3 = o_app M2 3 cs → cs = tStep Z S → cs.length ≤ 200 → Q none M3 := fun M3 cs e ecs hl => by
    rw [e]
    refine K _ (cfrq_tr q2 (cfrq_Ou fOu_app)) ?_
    rw [← ecs]
    exact ctx_cout h02 (by omega) (cout_app hO2)
  by_cases hk : (fSt Z S).1 = 0
  · rw [hk]
    refine ⟨⟨by omega, by omega⟩, fun h => absurd rfl h, fun _ => sp_isFillingL ho hs hnb hv (s138_23 ?_)⟩
    have t1 : ([115, 111, 108, 118, 101, 100] : List Int32).map Int32.toInt = wls 126922398262628 := by decide +kernel
    have t2 : ([115, 116, 117, 99, 107] : List Int32).map Int32.toInt = wls 495875089259 := by decide +kernel
    have w1 := wls_l8 (w := 126922398262628)
    have w2 := wls_l8 (w := 495875089259)
    by_cases hf : cCh Z S < 0
    · rw [if_pos hf]
      refine ⟨⟨by omega, by omega⟩, fun h => by omega, fun _ => sp_puts (d := d + 11) out3 lt_1000099 hO2 (s138_36 ?_)⟩
      rw [t1]
      exact fin _ _ rfl (by unfold tStep; rw [if_pos hk, if_pos hf]) (by omega)
    · rw [if_neg hf]
      refine ⟨⟨by omega, by omega⟩, fun _ => sp_puts (d := d + 11) out3 lt_1000101 hO2 (s138_36 ?_), fun h => absurd rfl h⟩
      rw [t2]
      exact fin _ _ rfl (by unfold tStep; rw [if_pos hk, if_neg hf]) (by omega)
  · obtain ⟨b1, b2, b3, b4, b5, b6, b7⟩ := fSt_in ho hk
    obtain ⟨a51, a61⟩ := a1 hk
    -- from the word on
    have body : ∀ hd : List Int, hd.length ≤ 10 → hd ++ dgs (fSt Z S).2.2.2.1 ++ (32 :: dgs ((fSt Z S).2.2.2.2 : Nat)) ++ (if (fSt Z S).1 < 3 then 32 :: dgs ((fSt Z S).2.1 : Nat) else []) ++ (if (fSt Z S).1 = 2 then 32 :: dgs (fSt Z S).2.2.1 else []) = tStep Z S → wp (kcs L xs) (d + 16) 138 66 [some (jR 31), none, none, some (jI ((fSt Z S).1 : Nat))] [] (o_app M2 3 hd) Q := fun hd hhd he => by
      have hO3 := o_ok_app (cs := hd) hO2
      have d1 := dgs_len (v := (fSt Z S).2.2.2.1)
      have d2 := dgs_len (v := ((fSt Z S).2.2.2.2 : Nat))
      have d3 := dgs_len (v := ((fSt Z S).2.1 : Nat))
      have d4 := dgs_len (v := (fSt Z S).2.2.1)
      refine s138_66 ?_
      rw [o_app_n3 (b := 31) (j := 5) (by omega) (by decide), a51]
      refine sp_number (d := d + 14) out3 hO3 (by omega) (by omega) (s138_77 (sp_put out3 (o_ok_app hO3) ⟨by omega, by omega⟩ (s138_86 ?_)))
      rw [o_put_n3 (b := 31) (j := 6) (by omega) (by decide), o_app_n3 (b := 31) (j := 6) (by omega) (by decide), o_app_n3 (b := 31) (j := 6) (by omega) (by decide), a61]
      refine sp_number (d := d + 14) out3 (o_ok_put (o_ok_app hO3)) (by omega) (by omega) (s138_97 ?_)
      have e1 : o_app (o_put (o_app (o_app M2 3 hd) 3 (dgs (fSt Z S).2.2.2.1)) 3 32) 3 (dgs ((fSt Z S).2.2.2.2 : Nat)) = o_app M2 3 (hd ++ dgs (fSt Z S).2.2.2.1 ++ (32 :: dgs ((fSt Z S).2.2.2.2 : Nat))) := by
        rw [← o_app_app, ← o_app_app]
        rfl
      rw [e1]
      refine ⟨⟨by omega, by omega⟩, fun h3 => ?_, fun h3 => ?_⟩
      · have hk3 : (fSt Z S).1 = 3 := by omega
        rw [if_neg (by omega), if_neg (by omega), List.append_nil, List.append_nil] at he
        refine ⟨⟨by omega, by omega⟩, fun _ => fin _ _ rfl he (by simp only [List.length_append, List.length_cons]; omega), fun h => by omega⟩
      · rw [if_pos (by omega)] at he
        have hO4 := o_ok_app (cs := hd ++ dgs (fSt Z S).2.2.2.1 ++ (32 :: dgs ((fSt Z S).2.2.2.2 : Nat))) hO2
        obtain ⟨R, g1, g2, g3⟩ := b6 (by omega)
        have hr12 := (rule_in ho g1).2
        refine sp_put out3 hO4 ⟨by omega, by omega⟩ (s138_111 ?_)
        rw [o_put_n3 (b := 31) (j := 3) (by omega) (by decide), o_app_n3 (b := 31) (j := 3) (by omega) (by decide), a2 (by omega)]
        refine sp_number (d := d + 14) out3 (o_ok_put hO4) (by omega) (by omega) (s138_122 ?_)
        have e2' : o_app (o_put (o_app M2 3 (hd ++ dgs (fSt Z S).2.2.2.1 ++ (32 :: dgs ((fSt Z S).2.2.2.2 : Nat)))) 3 32) 3 (dgs ((fSt Z S).2.1 : Nat)) = o_app M2 3 (hd ++ dgs (fSt Z S).2.2.2.1 ++ (32 :: dgs ((fSt Z S).2.2.2.2 : Nat)) ++ (32 :: dgs ((fSt Z S).2.1 : Nat))) := by
          rw [← o_app_app (ds := 32 :: dgs ((fSt Z S).2.1 : Nat))]
          rfl
        rw [e2']
        refine ⟨⟨by omega, by omega⟩, fun hn2 => ?_, fun h2 => ?_⟩
        · rw [if_neg (by omega), List.append_nil] at he
          exact fin _ _ rfl he (by simp only [List.length_append, List.length_cons]; omega)
        · have hk2 : (fSt Z S).1 = 2 := by omega
          rw [if_pos hk2] at he
          have hq := fSt_q ho hk2
          have hO5 := o_ok_app (cs := hd ++ dgs (fSt Z S).2.2.2.1 ++ (32 :: dgs ((fSt Z S).2.2.2.2 : Nat)) ++ (32 :: dgs ((fSt Z S).2.1 : Nat))) hO2
          refine sp_put out3 hO5 ⟨by omega, by omega⟩ (s138_136 ?_)
          rw [o_put_n3 (b := 31) (j := 4) (by omega) (by decide), o_app_n3 (b := 31) (j := 4) (by omega) (by decide), a3 hk2]
          refine sp_number (d := d + 14) out3 (o_ok_put hO5) (by omega) (by omega) (s138_147 (fin _ _ ?_ he (by simp only [List.length_append, List.length_cons]; omega)))
          rw [← o_app_app (ds := 32 :: dgs (fSt Z S).2.2.1)]
          rfl
    have w1 := wls_l8 (w := 7302757)
    have w2 := wls_l8 (w := 7632751)
    have w3 := wls_l8 (w := 7631481)
    have hk3 : (fSt Z S).1 = 1 ∨ (fSt Z S).1 = 2 ∨ (fSt Z S).1 = 3 := by omega
    have tw : ∀ (hd : List Int), tStep Z S = (if (fSt Z S).1 = 1 then wls 7302757 else if (fSt Z S).1 = 2 then wls 7632751 else wls 7631481) ++ (32 :: dgs (fSt Z S).2.2.2.1) ++ (32 :: dgs ((fSt Z S).2.2.2.2 : Nat)) ++ (if (fSt Z S).1 < 3 then 32 :: dgs ((fSt Z S).2.1 : Nat) else []) ++ (if (fSt Z S).1 = 2 then 32 :: dgs (fSt Z S).2.2.1 else []) := fun _ => by
      unfold tStep
      rw [if_neg hk]
    have t1 : ([111, 110, 101, 32] : List Int32).map Int32.toInt = wls 7302757 ++ [32] := by decide +kernel
    have t2 : ([116, 119, 111, 32] : List Int32).map Int32.toInt = wls 7632751 ++ [32] := by decide +kernel
    have t3 : ([116, 114, 121, 32] : List Int32).map Int32.toInt = wls 7631481 ++ [32] := by decide +kernel
    refine ⟨⟨by omega, by omega⟩, fun _ => ⟨⟨by omega, by omega⟩, fun hn1 => ⟨⟨by omega, by omega⟩, fun hn2 => sp_puts (d := d + 11) out3 lt_1000107 hO2 ?_, fun h2 => sp_puts (d := d + 11) out3 lt_1000105 hO2 ?_⟩, fun h1 => sp_puts (d := d + 11) out3 lt_1000103 hO2 ?_⟩, fun h => by omega⟩
    · rw [t3]
      refine body (wls 7631481 ++ [32]) (by simp; omega) ?_
      rw [tw [], show (if (fSt Z S).1 = 1 then wls 7302757 else if (fSt Z S).1 = 2 then wls 7632751 else wls 7631481) = wls 7631481 by rw [if_neg (by omega), if_neg (by omega)]]
      simp
    · rw [t2]
      refine body (wls 7632751 ++ [32]) (by simp; omega) ?_
      rw [tw [], show (if (fSt Z S).1 = 1 then wls 7302757 else if (fSt Z S).1 = 2 then wls 7632751 else wls 7631481) = wls 7632751 by rw [if_neg (by omega), if_pos (by omega)]]
      simp
    · rw [t1]
      refine body (wls 7302757 ++ [32]) (by simp; omega) ?_
      rw [tw [], show (if (fSt Z S).1 = 1 then wls 7302757 else if (fSt Z S).1 = 2 then wls 7632751 else wls 7631481) = wls 7302757 by rw [if_pos (by omega)]]
      simp
end CFS
