/-! clash and least of the class. -/
/-- the same puzzle but for givens -/
def zeq (Z Z' : PZ) : Prop := Z'.1 = Z.1 ∧ Z'.2.1 = Z.2.1 ∧ Z'.2.2.1 = Z.2.2.1 ∧ Z'.2.2.2.1 = Z.2.2.2.1
theorem zeq_rf {Z : PZ} : zeq Z Z := ⟨rfl, rfl, rfl, rfl⟩
theorem zeq_del {Z Z' : PZ} {c : Nat} (h : zeq Z Z') : zeq Z (gdel Z' c) := h
theorem s_ok_eq {Z Z' : PZ} {S : Nat → Nat} (h : zeq Z Z') (hs : s_ok Z' S) : s_ok Z S := fun c hc => by
  have := hs c hc
  rw [h.1, h.2.1, h.2.2.1] at this
  exact this
theorem s_ne_eq {Z Z' : PZ} {S : Nat → Nat} (h : zeq Z Z') (hs : s_ne Z' S) : s_ne Z S := fun c hc => hs c (by rw [h.1, h.2.1]; exact hc)
section CCL
variable {kc : List va_E} {L : Nat} {xs : Nat → Int32} {d : Nat} {Q : Option fx_V → fx_M → Prop} {Z : PZ}
theorem sp_all {M : fx_M} (hz : cz M 11 Z) {c : Int} (K : Q (some (jL (fx_lshl (fx_lshl 1 Z.2.2.1 - 1) (4 * c)))) M) : wc kc (d + 1) 95 [jR 29, jI c] M Q := by
  refine s95 ?_
  rw [hz.2.2.2.1]
  exact K
/-- counting the answers of other givens -/
theorem sp_cnt {M : fx_M} (ho : pz_ok Z) (hc : ckn M 11 Z) {Z' : PZ} (ho' : pz_ok Z') (he : zeq Z Z') {v : Int} (hv : sta v (s_first Z')) {li : Int} (hl : 1 ≤ li ∧ li ≤ 1048576) (K : Q (some (jI (mnL ((ans Z').length : Nat) li))) M) : wc (kcs L xs) (d + 13) 89 [jR 29, jL v, jI li] M Q := by
  obtain ⟨lim, rfl⟩ : ∃ n : Nat, li = (n : Int) := ⟨li.toNat, by omega⟩
  refine sp_count ho (s_ok_eq he (s_first_ok ho')) (s_ne_eq he (s_first_ne ho')) hv hc ⟨by omega, by omega⟩ ?_
  rw [ansS_cg (Z' := Z') he.1.symm he.2.1.symm he.2.2.2.symm, ansS_first ho']
  exact K
theorem sta_del {Z' : PZ} (ho' : pz_ok Z') (he : zeq Z Z') {v : Int} (hv : sta v (s_first Z')) {c : Nat} (hc : (c : Int) < Z.1 * Z.2.1) : sta (fx_lor v (fx_lshl (fx_lshl 1 Z.2.2.1 - 1) (4 * (c : Int)))) (s_first (gdel Z' c)) := by
  have h9 := pz_n ho'
  have hcz : (c : Int) < Z'.1 * Z'.2.1 := by rw [he.1, he.2.1]; exact hc
  have := sta_all ho' hv (c := c) (by omega)
  rw [he.2.2.1] at this
  exact sta_ext this (fun k hk => s_all_first ho' hcz hk)
theorem cz_gv {M : fx_M} (hz : cz M 11 Z) {c : Nat} (hc : c < 9) : M 17 (c : Int) = gv Z c := hz.2.2.2.2.2.2.1 c hc
theorem ccl_loop {M0 : fx_M} (ho : pz_ok Z) (K : ∀ M', cwr M0 M' (clT (Z.1 * Z.2.1).toNat 0 Z) → Q none M') : ∀ (t c : Nat) (Z' : PZ) (v : Int) (M : fx_M) (cs : List Int), (c : Int) + t = Z.1 * Z.2.1 → pz_ok Z' → zeq Z Z' → (∀ k, c ≤ k → gv Z' k = gv Z k) → sta v (s_first Z') → ckn M 11 Z → o_ok M 3 → cwr M0 M cs → cs ++ clT t c Z' = clT (Z.1 * Z.2.1).toNat 0 Z → wp (kcs L xs) (d + 14) 94 38 [some (jR 29), some (jL v), none, some (jI c)] [] M Q := by
  have h9 := pz_n ho
  intro t
  induction t with
  | zero =>
    intro c Z' v M cs hct ho' he hg hv hc hO hq ht
    refine s94_38 ?_
    rw [hc.1.2.2.1]
    refine ⟨⟨⟨by omega, by omega⟩, ⟨by omega, by omega⟩⟩, fun _ => K M ?_, fun h => by omega⟩
    rw [clT, List.append_nil] at ht
    rw [← ht]
    exact hq
  | succ t ih =>
    intro c Z' v M cs hct ho' he hg hv hc hO hq ht
    have hgb := gv_b ho (c := c)
    have hgc := hg c (Nat.le_refl _)
    have hcz : (c : Int) < Z'.1 * Z'.2.1 := by rw [he.1, he.2.1]; omega
    refine s94_38 ?_
    rw [hc.1.2.2.1, cz_gv hc.1 (by omega)]
    refine ⟨⟨⟨by omega, by omega⟩, ⟨by omega, by omega⟩⟩, fun h => by omega, fun _ => ⟨⟨by omega, by omega⟩, ⟨by omega, by omega⟩, fun hn => ?_, fun hp => ?_⟩⟩
    · have nx := ih (c + 1) Z' v M cs (by omega) ho' he (fun k hk => hg k (by omega)) hv hc hO hq (by rw [clT, if_neg (by rw [hgc]; omega)] at ht; exact ht)
      rw [show ((c + 1 : Nat) : Int) = (c : Int) + 1 by omega] at nx
      exact nx
    · have hvd := sta_del ho' he hv (c := c) (by omega)
      have hod := gdel_ok ho' hcz
      have hk := mnL_1 (a := (ans (gdel Z' c)).length)
      refine sp_all hc.1 (s94_68 (sp_cnt (li := 1) ho hc hod (zeq_del he) hvd ⟨by omega, by omega⟩ (s94_73 ⟨⟨by omega, by omega⟩, fun hne => ?_, fun h0 => ?_⟩)))
      · have ha : ans (gdel Z' c) ≠ [] := fun e => hne (by rw [e]; unfold mnL; rfl)
        have hO1 := o_ok_put (c := 32) hO
        refine sp_put out3 hO ⟨by omega, by omega⟩ (s94_96 (sp_number out3 hO1 (by omega) (by omega) (s94_104 ?_)))
        have hq1 := cwr_tr hq (cwr_app (M := M) (cs := 32 :: dgs (c : Int)))
        have nx := ih (c + 1) Z' v (o_app M 3 (32 :: dgs (c : Int))) _ (by omega) ho' he (fun k hk => hg k (by omega)) hv (ckn_cwr hc cwr_app) (o_ok_app hO) hq1 (by
          rw [clT, if_pos (by rw [hgc]; exact hp), if_neg ha] at ht
          rw [List.append_assoc]
          exact ht)
        rw [show ((c + 1 : Nat) : Int) = (c : Int) + 1 by omega] at nx
        exact nx
      · have ha : ans (gdel Z' c) = [] := List.length_eq_zero_iff.mp (hk.1.mp (by omega))
        refine sp_all hc.1 (s94_82 ?_)
        have nx := ih (c + 1) (gdel Z' c) _ M cs (by omega) hod (zeq_del he) (fun k hk => by
          unfold gdel
          rw [gv_give (pz_9 ho') (by omega), if_neg (by omega)]
          exact hg k (by omega)) hvd hc hO hq (by
          rw [clT, if_pos (by rw [hgc]; exact hp), if_pos ha] at ht
          exact ht)
        rw [show ((c + 1 : Nat) : Int) = (c : Int) + 1 by omega] at nx
        exact nx
theorem sp_clash {M : fx_M} (ho : pz_ok Z) (hc : ckn M 11 Z) (hO : o_ok M 3) (K : ∀ M', cwr M M' (tClash Z) → Q none M') : wc (kcs L xs) (d + 14) 94 [jR 29] M Q := by
  have h9 := pz_n ho
  have hk := mnL_1 (a := (ans Z).length)
  refine s94 (sp_first puz11 hc.1 ho (fun v hv => s94_7 (sp_cnt (li := 1) ho hc ho zeq_rf hv ⟨by omega, by omega⟩ (s94_14 ⟨⟨by omega, by omega⟩, fun h => ?_, fun h => ?_⟩))))
  · have e0 : ans Z = [] := List.length_eq_zero_iff.mp (hk.1.mp h)
    have et : ([99, 108, 97, 115, 104] : List Int32).map Int32.toInt = wls (wrd 17) := by decide +kernel
    refine sp_puts out3 lt_1000073 hO (s94_36 ?_)
    rw [et]
    refine ccl_loop (M0 := o_app M 3 (wls (wrd 17))) ho (fun M' hq => K M' ?_) (Z.1 * Z.2.1).toNat 0 Z v _ [] (by omega) ho zeq_rf (fun _ _ => rfl) hv (ckn_cwr hc cwr_app) (o_ok_app hO) cwr_rf rfl
    unfold tClash
    rw [if_pos e0]
    exact cwr_tr cwr_app hq
  · have e0 : ans Z ≠ [] := fun e => by
      rw [e] at h
      unfold mnL at h
      simp at h
    have et : ([110, 111, 110, 101] : List Int32).map Int32.toInt = wls 1852796517 := by decide +kernel
    refine sp_puts out3 lt_1000071 hO (s94_26 (K _ ?_))
    rw [et]
    unfold tClash
    rw [if_neg e0]
    exact cwr_app
/-- the class counts givens of nine cells -/
theorem cgr_9 (ho : pz_ok Z) : cgr Z 0 9 = cgv Z := by
  have h9 := pz_n ho
  rw [cgv_r]
  have : ∀ (t c : Nat), Z.1 * Z.2.1 ≤ (c : Int) → cgr Z c t = 0 := fun t => by
    induction t with
    | zero => intro c _; rfl
    | succ t ih =>
      intro c hc
      have hg : gv Z c = -1 := ho.2.2.2.2.2.2.2.2.2.2 c hc
      rw [cgr_s, hg, if_pos (by omega), ih (c + 1) (by omega)]
  have h2 : ∀ (t c : Nat), (c + t : Nat) = (Z.1 * Z.2.1).toNat → cgr Z c (t + (9 - (Z.1 * Z.2.1).toNat)) = cgr Z c t := fun t => by
    induction t with
    | zero =>
      intro c hc
      rw [Nat.zero_add, this _ _ (by omega)]
      rfl
    | succ t ih =>
      intro c hc
      rw [show t + 1 + (9 - (Z.1 * Z.2.1).toNat) = (t + (9 - (Z.1 * Z.2.1).toNat)) + 1 by omega, cgr_s, cgr_s, ih (c + 1) (by omega)]
  have := h2 (Z.1 * Z.2.1).toNat 0 (by omega)
  rw [show (Z.1 * Z.2.1).toNat + (9 - (Z.1 * Z.2.1).toNat) = 9 by omega] at this
  exact this
theorem gvs_loop (ho : pz_ok Z) {M : fx_M} (hz : cz M 11 Z) : ∀ (t c : Nat) (v : Nat), c + t = 9 → v ≤ c → Q (some (jI ((v + cgr Z c t : Nat) : Int))) M → wp (kcs L xs) (d + 1) 97 4 [some (jR 11), some (jI v), some (jI c)] [] M Q := by
  intro t
  induction t with
  | zero =>
    intro c v hc hv K
    exact s97_4 puz11 ⟨⟨by omega, by omega⟩, fun _ => K, fun h => by omega⟩
  | succ t ih =>
    intro c v hc hv K
    have hg := gv_b ho (c := c)
    refine s97_4 puz11 ⟨⟨by omega, by omega⟩, fun h => by omega, fun _ => ⟨⟨by omega, by omega⟩, ?_⟩⟩
    rw [show M (11 + 6) (c : Int) = gv Z c from cz_gv hz (by omega)]
    refine ⟨⟨by omega, by omega⟩, ?_⟩
    have e : ((v : Int) + (if gv Z c < 0 then (0 : Int) else 1)) = ((v + (if gv Z c < 0 then 0 else 1) : Nat) : Int) := by split <;> omega
    rw [e]
    have nx := ih (c + 1) (v + (if gv Z c < 0 then 0 else 1)) (by omega) (by split <;> omega) (by
      rw [cgr_s] at K
      rw [Nat.add_assoc]
      exact K)
    rw [show ((c + 1 : Nat) : Int) = (c : Int) + 1 by omega] at nx
    exact nx
theorem sp_givens (ho : pz_ok Z) {M : fx_M} (hz : cz M 11 Z) (K : Q (some (jI (cgv Z : Nat))) M) : wc (kcs L xs) (d + 1) 97 [jR 11] M Q := by
  refine s97 puz11 (gvs_loop ho hz 9 0 0 (by omega) (by omega) ?_)
  rw [cgr_9 ho, Nat.zero_add]
  exact K
/-- only the givens of the puzzle have changed -/
def f17 (M N : fx_M) : Prop := ∀ b j, ¬ (b = 17 ∧ 0 ≤ j ∧ j < 9) → N b j = M b j
theorem ckn_del (ho : pz_ok Z) {M : fx_M} (hc : ckn M 11 Z) {c : Nat} {s : Int} (h9 : c < 9) : ckn (fx_up M 17 (c : Int) s) 11 (z_give Z (c : Int) s) := ⟨cz_give hc.1 (pz_9 ho) ⟨by omega, by omega⟩, by rw [fx_up_na (by decide)]; exact hc.2⟩
theorem cle_loop {M0 : fx_M} {ZF : PZ} (K : ∀ M', f17 M0 M' → ckn M' 11 ZF → pz_ok ZF → wc (kcs L xs) (d + 13) 64 [jR 3, jR 1000077] M' (fun v M1 => wp (kcs L xs) (d + 14) 96 103 [some (jR 29), none, none, none] (v.toList ++ []) M1 Q)) : ∀ (t c : Nat) (Z : PZ) (v : Int) (M : fx_M), (c : Int) + t = Z.1 * Z.2.1 → pz_ok Z → sta v (s_first Z) → ckn M 11 Z → leR t c Z = ZF → f17 M0 M → wp (kcs L xs) (d + 14) 96 31 [some (jR 29), some (jL v), none, some (jI c)] [] M Q := by
  intro t
  induction t with
  | zero =>
    intro c Z v M hct ho hv hc he hf
    have h9 := pz_n ho
    refine s96_31 ?_
    rw [hc.1.2.2.1]
    have he : Z = ZF := he
    subst he
    exact ⟨⟨⟨by omega, by omega⟩, ⟨by omega, by omega⟩⟩, fun _ => K M hf hc ho, fun h => by omega⟩
  | succ t ih =>
    intro c Z v M hct ho hv hc he hf
    have h9 := pz_n ho
    have hgb := gv_b ho (c := c)
    refine s96_31 ?_
    rw [hc.1.2.2.1, cz_gv hc.1 (by omega)]
    refine ⟨⟨⟨by omega, by omega⟩, ⟨by omega, by omega⟩⟩, fun h => by omega, fun _ => ⟨⟨by omega, by omega⟩, ⟨by omega, by omega⟩, fun hn => ?_, fun hp => ?_⟩⟩
    · have nx := ih (c + 1) Z v M (by omega) ho hv hc (by rw [leR, if_neg (fun x => by omega)] at he; exact he) hf
      rw [show ((c + 1 : Nat) : Int) = (c : Int) + 1 by omega] at nx
      exact nx
    · have hvd := sta_del ho zeq_rf hv (c := c) (by omega)
      have hod := gdel_ok ho (show (c : Int) < Z.1 * Z.2.1 by omega)
      have hk := mnL_2 (a := (ans (gdel Z c)).length)
      refine sp_all hc.1 (s96_61 (sp_cnt (li := 2) ho hc hod (zeq_del zeq_rf) hvd ⟨by omega, by omega⟩ (s96_66 ⟨⟨by omega, by omega⟩, fun hne => ?_, fun h1 => ?_⟩)))
      · have nx := ih (c + 1) Z v M (by omega) ho hv hc (by rw [leR, if_neg (fun x => hne (hk.1.mpr x.2))] at he; exact he) hf
        rw [show ((c + 1 : Nat) : Int) = (c : Int) + 1 by omega] at nx
        exact nx
      · refine sp_all hc.1 (s96_76 ⟨⟨by omega, by omega⟩, ?_⟩)
        have nx := ih (c + 1) (gdel Z c) _ (fx_up M 17 (c : Int) (-1)) (by show ((c + 1 : Nat) : Int) + t = Z.1 * Z.2.1; omega) hod hvd (ckn_del ho hc (by omega)) (by rw [leR, if_pos ⟨hp, hk.1.mp h1⟩] at he; exact he) (fun b j hb => by rw [fx_up_ne (by omega)]; exact hf b j hb)
        rw [show ((c + 1 : Nat) : Int) = (c : Int) + 1 by omega] at nx
        exact nx
theorem sp_least {M : fx_M} (ho : pz_ok Z) (hc : ckn M 11 Z) (hO : o_ok M 3) (K0 : (ans Z).length ≠ 1 → Q (some (jI 0)) (o_app M 3 tNot1)) (K1 : (ans Z).length = 1 → ∀ M', (∀ b j, ¬ (b = 17 ∧ 0 ≤ j ∧ j < 9) → M' b j = o_app M 3 (tLeast Z) b j) → ckn M' 11 (zLe Z) → pz_ok (zLe Z) → Q (some (jI 1)) M') : wc (kcs L xs) (d + 14) 96 [jR 29] M Q := by
  have h9 := pz_n ho
  have hk := mnL_2 (a := (ans Z).length)
  refine s96 (sp_first puz11 hc.1 ho (fun v hv => s96_7 (sp_cnt (li := 2) ho hc ho zeq_rf hv ⟨by omega, by omega⟩ (s96_14 ⟨⟨by omega, by omega⟩, fun h => ?_, fun h => ?_⟩))))
  · refine cle_loop (M0 := M) (ZF := zLe Z) (fun M1 f1 c1 o1 => ?_) (Z.1 * Z.2.1).toNat 0 Z v M (by omega) ho hv hc rfl (fun _ _ _ => rfl)
    have hO1 : o_ok M1 3 := by
      unfold o_ok
      rw [f1 3 1 (by omega)]
      exact hO
    have et : ([108, 101, 97, 115, 116, 32] : List Int32).map Int32.toInt = wls (wrd 18) ++ [32] := by decide +kernel
    refine sp_puts out3 lt_1000077 hO1 (s96_103 ?_)
    rw [et]
    have c2 := ckn_cwr c1 (cwr_app (cs := wls (wrd 18) ++ [32]))
    have hcg := cgv_le o1
    refine sp_givens o1 c2.1 (s96_114 (sp_number out3 (o_ok_app hO1) (by omega) (by omega) (s96_117 (K1 (hk.1.mp h) _ (fun b j hb => ?_) (ckn_cwr c2 cwr_app) o1))))
    have e1 : o_app (o_app M1 3 (wls (wrd 18) ++ [32])) 3 (dgs ((cgv (zLe Z) : Nat) : Int)) = o_app M1 3 (tLeast Z) := by
      rw [o_app_app]
      unfold tLeast
      simp
    rw [e1]
    have e2 := o_app_cg (cs := tLeast Z) (f1 3 1 (by omega)) (fun j => f1 4 j (by omega))
    by_cases h4 : b = 4
    · subst h4
      exact e2.2 j
    · by_cases h3 : b = 3 ∧ j = 1
      · obtain ⟨rfl, rfl⟩ := h3
        exact e2.1
      · rw [o_app_n3 h3 h4, o_app_n3 h3 h4]
        exact f1 b j hb
  · have et : ([110, 111, 116, 32, 111, 110, 101] : List Int32).map Int32.toInt = tNot1 := by decide +kernel
    refine sp_puts out3 lt_1000075 hO (s96_27 ?_)
    rw [et]
    exact K0 (fun e => h (hk.1.mpr e))
end CCL
