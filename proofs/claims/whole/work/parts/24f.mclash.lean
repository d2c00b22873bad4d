/-! sayClash, sayLeast. -/
section MCM
variable {kc : List va_E} {d : Nat} {Q : Option fx_V → fx_M → Prop} {Z : PZ}
theorem mnL_1 {a : Nat} : (mnL (a : Int) 1 ≤ 0 ↔ a = 0) ∧ 0 ≤ mnL (a : Int) 1 ∧ mnL (a : Int) 1 ≤ 1 := by
  unfold mnL
  split <;> omega
theorem mnL_2 {a : Nat} : (mnL (a : Int) 2 = 1 ↔ a = 1) ∧ 0 ≤ mnL (a : Int) 2 ∧ mnL (a : Int) 2 ≤ 2 := by
  unfold mnL
  split <;> omega
/-- beside 155, 159 and the givens nothing has changed -/
def fgv (M N : fx_M) : Prop := ∀ b j, b ≠ 155 → b ≠ 159 → ¬ (b = 154 ∧ 0 ≤ j ∧ j < 9) → N b j = M b j
theorem fgv_of {M N : fx_M} (h : f159 M N) : fgv M N := fun b j h1 h2 _ => h b j h1 h2
theorem fgv_tr {M N O : fx_M} (h1 : fgv M N) (h2 : fgv N O) : fgv M O := fun b j a1 a2 a3 => (h2 b j a1 a2 a3).trans (h1 b j a1 a2 a3)
theorem fgv_rf {M : fx_M} : fgv M M := fun _ _ _ _ _ => rfl
theorem fgv_up {M : fx_M} {k v : Int} (h : 0 ≤ k ∧ k < 9) : fgv M (fx_up M 154 k v) := fun b j _ _ h2 => fx_up_ne (by rintro ⟨rfl, rfl⟩; exact h2 ⟨rfl, h⟩)
theorem mwg_fgv {M N : fx_M} (h : fgv M N) : mwg M N [] := fun b j h1 h2 => h b j (by rintro rfl; exact h1 (by unfold msc; omega)) (by rintro rfl; exact h1 (by unfold msc; omega)) h2
theorem gdel_back (ho : pz_ok Z) {M M' : fx_M} {c : Nat} (hc : c < 9) (hz : mz M 0 Z) (hf : f159 (fx_up M 154 (c : Int) (-1)) M') : mz (fx_up M' 154 (c : Int) (gv Z c)) 0 Z := by
  refine mz_again (Z2 := Z) hz rfl rfl rfl rfl (fun k hk => ?_) (fun b j h1 h2 => ?_)
  · by_cases e : k = c
    · subst e
      rw [fx_up_self]
    · rw [fx_up_nk (by omega), hf 154 _ (by decide) (by decide), fx_up_nk (by omega)]
      exact mz_gv hz hk
  · rw [fx_up_na (by omega), hf b j (by omega) (by omega), fx_up_na (by omega)]
theorem clr_sz {t c : Nat} : (clR t c Z).2.2.2.1 = Z.2.2.2.1 := by
  induction t generalizing c Z with
  | zero => rfl
  | succ t ih =>
    unfold clR
    rw [ih]
    split <;> rfl
theorem cl_loop {M0 : fx_M} {ZF : PZ} (K : ∀ M', fgv M0 M' → mz M' 0 ZF → pz_ok ZF → wp kc (d + 7) 411 77 [some (jR 133), none, none] [jL (wrd 17), jR 133] M' Q) : ∀ (t c : Nat) (Z : PZ) (M : fx_M), (c : Int) + t = Z.1 * Z.2.1 → pz_ok Z → mz M 0 Z → clR t c Z = ZF → fgv M0 M → wp kc (d + 7) 411 22 [some (jR 133), some (jI c), none] [] M Q := by
  intro t
  induction t with
  | zero =>
    intro c Z M hc ho hz he hq
    have h9 := pz_n ho
    refine s411_22 (s248 (s411_27 ?_))
    rw [hz.1, hz.2.1]
    refine ⟨⟨⟨by omega, by omega⟩, ⟨by omega, by omega⟩⟩, fun _ => sp_word (by omega) (by omega) ?_, fun h => by omega⟩
    have he : Z = ZF := he
    subst he
    exact K M hq hz ho
  | succ t ih =>
    intro c Z M hc ho hz he hq
    have h9 := pz_n ho
    have hg := gv_b ho (c := c)
    refine s411_22 (s248 (s411_27 ?_))
    rw [hz.1, hz.2.1]
    refine ⟨⟨⟨by omega, by omega⟩, ⟨by omega, by omega⟩⟩, fun h => by omega, fun _ => s271 ⟨⟨by omega, by omega⟩, s411_35 ?_⟩⟩
    rw [mz_gv hz (by omega)]
    refine ⟨⟨by omega, by omega⟩, fun hp => ⟨⟨by omega, by omega⟩, ?_⟩, fun hn => ?_⟩
    · have hz1 := mz_giv (s := -1) ho hz (c := c) (by omega)
      have ho1 := gdel_ok ho (show (c : Int) < Z.1 * Z.2.1 by omega)
      have hk := mnL_1 (a := (ans (gdel Z c)).length)
      refine sp_countAnswers (Z := gdel Z c) ho1 hz1 ⟨by omega, by omega⟩ (fun M' hf => s411_55 ⟨⟨by omega, by omega⟩, fun h => ?_, fun h => ⟨⟨by omega, by omega⟩, ?_⟩⟩)
      · have e0 : ans (gdel Z c) = [] := List.length_eq_zero_iff.mp (hk.1.mp h)
        have nx := ih (c + 1) (gdel Z c) M' (by show ((c + 1 : Nat) : Int) + t = Z.1 * Z.2.1; omega) ho1 (mz_f159 hz1 hf) (by rw [clR, if_pos ⟨hp, e0⟩] at he; exact he) (fgv_tr hq (fgv_tr (fgv_up ⟨by omega, by omega⟩) (fgv_of hf)))
        rw [show ((c + 1 : Nat) : Int) = (c : Int) + 1 by omega] at nx
        exact nx
      · have e0 : ans (gdel Z c) ≠ [] := fun e => by
          rw [e] at h
          unfold mnL at h
          simp at h
        have nx := ih (c + 1) Z (fx_up M' 154 (c : Int) (gv Z c)) (by omega) ho (gdel_back ho (by omega) hz hf) (by rw [clR, if_neg (fun x => e0 x.2)] at he; exact he) (fgv_tr hq (fgv_tr (fgv_up ⟨by omega, by omega⟩) (fgv_tr (fgv_of hf) (fgv_up ⟨by omega, by omega⟩))))
        rw [show ((c + 1 : Nat) : Int) = (c : Int) + 1 by omega] at nx
        exact nx
    · have nx := ih (c + 1) Z M (by omega) ho hz (by rw [clR, if_neg (fun x => by omega)] at he; exact he) hq
      rw [show ((c + 1 : Nat) : Int) = (c : Int) + 1 by omega] at nx
      exact nx
theorem cls_loop {ZF : PZ} (ho : pz_ok ZF) : ∀ (t c : Nat) (M : fx_M), (c : Int) + t = ZF.1 * ZF.2.1 → mz M 0 ZF → m_ok M → (∀ M', M' = m_app M ((List.range' c t).flatMap (fun k : Nat => if 0 ≤ gv ZF k then 32 :: dgs (k : Int) else [])) → wc kc (d + 6) 283 [jR 133] M' (fun v M1 => wp kc (d + 7) 411 113 [none, none, none] (v.toList ++ []) M1 Q)) → wp kc (d + 7) 411 82 [some (jR 133), some (jI c), none] [] M Q := by
  have h9 := pz_n ho
  intro t
  induction t with
  | zero =>
    intro c M hc hz hO K
    refine s411_82 (s248 (s411_87 ?_))
    rw [hz.1, hz.2.1]
    exact ⟨⟨⟨by omega, by omega⟩, ⟨by omega, by omega⟩⟩, fun _ => K M rfl, fun h => by omega⟩
  | succ t ih =>
    intro c M hc hz hO K
    have hg := gv_b ho (c := c)
    rw [List.range'_succ, List.flatMap_cons] at K
    refine s411_82 (s248 (s411_87 ?_))
    rw [hz.1, hz.2.1]
    refine ⟨⟨⟨by omega, by omega⟩, ⟨by omega, by omega⟩⟩, fun h => by omega, fun _ => s271 ⟨⟨by omega, by omega⟩, s411_95 ?_⟩⟩
    rw [mz_gv hz (by omega)]
    refine ⟨⟨by omega, by omega⟩, fun hn => ?_, fun hp => ?_⟩
    · rw [if_neg (by omega), List.nil_append] at K
      have nx := ih (c + 1) M (by omega) hz hO K
      rw [show ((c + 1 : Nat) : Int) = (c : Int) + 1 by omega] at nx
      exact nx
    · rw [if_pos hp] at K
      refine sp_sayMore hO (by omega) (by omega) (s411_103 ?_)
      have nx := ih (c + 1) (m_app M (32 :: dgs (c : Int))) (by omega) (mz_mwr hz mwr_app) (m_ok_app hO) (fun M' e => K M' (by rw [e, m_app_app]))
      rw [show ((c + 1 : Nat) : Int) = (c : Int) + 1 by omega] at nx
      exact nx
theorem sp_sayClash {M : fx_M} (ho : pz_ok Z) (hz : mz M 0 Z) (hO : m_ok M) (K : ∀ M', mwr M M' (tClash Z) → Q none M') : wc kc (d + 7) 411 [jR 133] M Q := by
  have h9 := pz_n ho
  have hk := mnL_1 (a := (ans Z).length)
  refine s411 (sp_countAnswers ho hz ⟨by omega, by omega⟩ (fun M1 hf1 => s411_5 ⟨⟨by omega, by omega⟩, fun h => ?_, fun h => ?_⟩))
  · have e0 : ans Z = [] := List.length_eq_zero_iff.mp (hk.1.mp h)
    refine sp_keepGivens (fun M2 k1 k2 => s411_20 ?_)
    have hz1 := mz_f159 hz hf1
    have hz2 : mz M2 0 Z := mz_again (Z2 := Z) hz1 rfl rfl rfl rfl (fun c hc => by rw [k2 _ _ (by decide)]; exact mz_gv hz1 hc) (fun b j h1 h2 => k2 b j (by omega))
    have q2 : mwr M M2 [] := fun b j hb => by
      show M2 b j = M b j
      rw [k2 b j (by rintro rfl; exact hb (by unfold msc; omega))]
      exact mwr_159 hf1 b j hb
    refine cl_loop (M0 := M2) (ZF := clR (Z.1 * Z.2.1).toNat 0 Z) (fun M3 f3 z3 o3 => ?_) (Z.1 * Z.2.1).toNat 0 Z M2 (by omega) ho hz2 rfl fgv_rf
    have q3 : mwg M M3 [] := mwg_tr (mwg_of q2) (mwg_fgv f3)
    have hsz := clR_sz (Z.1 * Z.2.1).toNat 0 Z
    refine s411_77 (sp_sayWord (wrd_ok (by omega) (by omega)) (mwg_ok q3 hO) (s411_80 ?_))
    refine cls_loop o3 (Z.1 * Z.2.1).toNat 0 _ (by rw [hsz.1, hsz.2.1]; omega) (mz_mwr z3 mwr_app) (m_ok_app (mwg_ok q3 hO)) (fun M4 e4 => ?_)
    rw [clT_eq _ _ _ (by omega) ho, m_app_app] at e4
    have ht : wls (wrd 17) ++ clT (Z.1 * Z.2.1).toNat 0 Z = tClash Z := by
      unfold tClash
      rw [if_pos e0]
    rw [ht] at e4
    refine sp_takeGivens (fun M5 g1 g2 => s411_113 (K M5 (fun b j hb => ?_)))
    by_cases hg : b = 154 ∧ 0 ≤ j ∧ j < 9
    · obtain ⟨rfl, hj1, hj2⟩ := hg
      have hj : ((j.toNat : Nat) : Int) = j := by omega
      rw [m_app_ne (by omega) (by decide), ← hj, g1 _ (by omega), e4, m_app_ne (by omega) (by decide), f3 167 _ (by decide) (by decide) (by omega), k1 _ (by omega), mz_gv hz1 (by omega), mz_gv hz (by omega)]
    · rw [g2 b j hg, e4]
      exact (mwg_tr q3 (mwg_of (mwr_app (M := M3)))) b j hb hg
  · have e0 : ans Z ≠ [] := fun e => by
      rw [e] at h
      unfold mnL at h
      simp at h
    have q1 := mwr_159 hf1
    refine sp_sayWord w_ok_none (mwr_ok q1 hO) (s411_15 (K _ ?_))
    unfold tClash
    rw [if_neg e0]
    exact mwr_tr q1 mwr_app
/-- least -/
def leR : Nat → Nat → PZ → PZ
  | 0, _, Z => Z
  | t + 1, c, Z => leR t (c + 1) (if 0 ≤ gv Z c ∧ (ans (gdel Z c)).length = 1 then gdel Z c else Z)
theorem leR_ok : ∀ (t c : Nat) (Z : PZ), ((c + t : Nat) : Int) ≤ Z.1 * Z.2.1 → pz_ok Z → pz_ok (leR t c Z)
  | 0, _, _, _, h => h
  | t + 1, c, Z, hc, h => by
    unfold leR
    split
    · exact leR_ok t (c + 1) (gdel Z c) (by show ((c + 1 + t : Nat) : Int) ≤ Z.1 * Z.2.1; omega) (gdel_ok h (by omega))
    · exact leR_ok t (c + 1) Z (by omega) h
theorem le_loop {M0 : fx_M} {ZF : PZ} (K : ∀ M', fgv M0 M' → mz M' 0 ZF → pz_ok ZF → wc kc (d + 6) 215 [jR 133] M' (fun v M1 => wp kc (d + 7) 267 70 [some (jR 133), none, none] (v.toList ++ []) M1 Q)) : ∀ (t c : Nat) (Z : PZ) (M : fx_M), (c : Int) + t = Z.1 * Z.2.1 → pz_ok Z → mz M 0 Z → leR t c Z = ZF → fgv M0 M → wp kc (d + 7) 267 16 [some (jR 133), some (jI c), none] [] M Q := by
  intro t
  induction t with
  | zero =>
    intro c Z M hc ho hz he hq
    have h9 := pz_n ho
    refine s267_16 (s248 (s267_21 ?_))
    rw [hz.1, hz.2.1]
    refine ⟨⟨⟨by omega, by omega⟩, ⟨by omega, by omega⟩⟩, fun _ => ?_, fun h => by omega⟩
    have he : Z = ZF := he
    subst he
    exact K M hq hz ho
  | succ t ih =>
    intro c Z M hc ho hz he hq
    have h9 := pz_n ho
    have hg := gv_b ho (c := c)
    refine s267_16 (s248 (s267_21 ?_))
    rw [hz.1, hz.2.1]
    refine ⟨⟨⟨by omega, by omega⟩, ⟨by omega, by omega⟩⟩, fun h => by omega, fun _ => s271 ⟨⟨by omega, by omega⟩, s267_29 ?_⟩⟩
    rw [mz_gv hz (by omega)]
    refine ⟨⟨by omega, by omega⟩, fun hp => ⟨⟨by omega, by omega⟩, ?_⟩, fun hn => ?_⟩
    · have hz1 := mz_giv (s := -1) ho hz (c := c) (by omega)
      have ho1 := gdel_ok ho (show (c : Int) < Z.1 * Z.2.1 by omega)
      have hk := mnL_2 (a := (ans (gdel Z c)).length)
      refine sp_countAnswers (Z := gdel Z c) ho1 hz1 ⟨by omega, by omega⟩ (fun M' hf => s267_49 ⟨⟨by omega, by omega⟩, fun h => ?_, fun h => ⟨⟨by omega, by omega⟩, ?_⟩⟩)
      · have nx := ih (c + 1) (gdel Z c) M' (by show ((c + 1 : Nat) : Int) + t = Z.1 * Z.2.1; omega) ho1 (mz_f159 hz1 hf) (by rw [leR, if_pos ⟨hp, hk.1.mp h⟩] at he; exact he) (fgv_tr hq (fgv_tr (fgv_up ⟨by omega, by omega⟩) (fgv_of hf)))
        rw [show ((c + 1 : Nat) : Int) = (c : Int) + 1 by omega] at nx
        exact nx
      · have nx := ih (c + 1) Z (fx_up M' 154 (c : Int) (gv Z c)) (by omega) ho (gdel_back ho (by omega) hz hf) (by rw [leR, if_neg (fun x => h (hk.1.mpr x.2))] at he; exact he) (fgv_tr hq (fgv_tr (fgv_up ⟨by omega, by omega⟩) (fgv_tr (fgv_of hf) (fgv_up ⟨by omega, by omega⟩))))
        rw [show ((c + 1 : Nat) : Int) = (c : Int) + 1 by omega] at nx
        exact nx
    · have nx := ih (c + 1) Z M (by omega) ho hz (by rw [leR, if_neg (fun x => by omega)] at he; exact he) hq
      rw [show ((c + 1 : Nat) : Int) = (c : Int) + 1 by omega] at nx
      exact nx
def tNot1 : List Int := wls 7237492 ++ 32 :: wls 7302757
theorem sp_sayNotOne {M : fx_M} (hO : m_ok M) (K : Q none (m_app M tNot1)) : wc kc (d + 4) 279 [jR 133] M Q := by
  refine s279 (sp_sayWord (by unfold w_ok; omega) hO (s279_7 (sp_sayByte (m_ok_app hO) (s279_13 (sp_sayWord (by unfold w_ok; omega) (m_ok_put (m_ok_app hO)) (s279_20 ?_))))))
  have e : m_app (m_put (m_app M (wls 7237492)) 32) (wls 7302757) = m_app M tNot1 := by
    unfold tNot1
    rw [← m_app_app]
    rfl
  rw [e]
  exact K
/-- what least leaves and says -/
def zLe (Z : PZ) : PZ := leR (Z.1 * Z.2.1).toNat 0 Z
theorem zLe_ok (ho : pz_ok Z) : pz_ok (zLe Z) := leR_ok _ _ _ (by have := pz_n ho; omega) ho
def tLeast (Z : PZ) : List Int := wls (wrd 18) ++ 32 :: dgs (cgv (zLe Z) : Nat)
theorem sp_sayLeast {M V : fx_M} (ho : pz_ok Z) (hz : mz M 0 Z) (hv : mpv M V) (hO : m_ok M) (K0 : (ans Z).length ≠ 1 → ∀ M', mwr M M' tNot1 → Q none M') (K1 : (ans Z).length = 1 → ∀ M', (∀ b j, ¬ msc b j → ¬ (b = 154 ∧ 0 ≤ j ∧ j < 9) → ¬ (174 ≤ b ∧ b ≤ 177) → M' b j = m_app M (tLeast Z) b j) → mz M' 0 (zLe Z) → mpv M' (pv_new V) → Q none M') : wc kc (d + 7) 267 [jR 133] M Q := by
  have h9 := pz_n ho
  have hk := mnL_2 (a := (ans Z).length)
  refine s267 (sp_countAnswers ho hz ⟨by omega, by omega⟩ (fun M1 hf1 => s267_5 ⟨⟨by omega, by omega⟩, fun h => ?_, fun h => ?_⟩))
  · have hz1 := mz_f159 hz hf1
    refine le_loop (M0 := M1) (ZF := zLe Z) (fun M3 f3 z3 o3 => ?_) (Z.1 * Z.2.1).toNat 0 Z M1 (by omega) ho hz1 rfl fgv_rf
    have q3 : mwg M M3 [] := mwg_tr (mwg_of (mwr_159 hf1)) (mwg_fgv f3)
    have v3 : mpv M3 V := by
      refine ⟨?_, fun i j i1 i8 j0 j1 => ?_⟩
      · rw [q3 133 80 (by unfold msc; omega) (by omega)]
        exact hv.1
      · rw [← hv.2 i j i1 i8 j0 j1]
        have hb := pvM_b i1 i8
        rw [q3 (pvM i) j (by unfold msc; omega) (by omega)]
        rfl
    refine sp_playAnew v3 (fun M4 v4 f4 => s267_70 (sp_word (by omega) (by omega) (s267_76 ?_)))
    have z4 : mz M4 0 (zLe Z) := mz_again (Z2 := zLe Z) z3 rfl rfl rfl rfl (fun c hc => by rw [f4 _ _ (by omega)]; exact mz_gv z3 hc) (fun b j h1 h2 => f4 b j (by omega))
    refine sp_countGivens o3 z4 (s267_80 ?_)
    have hO4 : m_ok M4 := by
      have := mwg_ok q3 hO
      unfold m_ok at this ⊢
      rw [f4 133 5 (by omega)]
      exact this
    have hcg := cgv_le o3
    refine sp_sayCount (wrd_ok (by omega) (by omega)) hO4 (by omega) (by omega) (s267_83 (K1 (hk.1.mp h) _ (fun b j hb hg hp => ?_) (mz_mwr z4 mwr_app) ?_))
    · have e1 : M4 133 5 = M3 133 5 := f4 133 5 (by omega)
      have e2 := m_app_cg (cs := tLeast Z) e1 (fun j => f4 136 j (by omega))
      have e3 := (mwg_tr q3 (mwg_of (mwr_app (M := M3) (cs := tLeast Z)))) b j hb hg
      rw [List.nil_append] at e3
      rw [← e3]
      by_cases h136 : b = 136
      · subst h136
        exact e2.2 j
      · by_cases h5 : b = 133 ∧ j = 5
        · obtain ⟨rfl, rfl⟩ := h5
          exact e2.1
        · rw [m_app_ne h5 h136, m_app_ne h5 h136]
          exact f4 b j hp
    · refine ⟨by rw [m_app_ne (by omega) (by decide)]; exact v4.1, fun i j i1 i8 j0 j1 => ?_⟩
      have hb := pvM_b i1 i8
      rw [m_app_ne (by omega) (by omega)]
      exact v4.2 i j i1 i8 j0 j1
  · have q1 := mwr_159 hf1
    have q2 := mwr_tr q1 (mwr_app (M := M1) (cs := tNot1))
    exact sp_sayNotOne (mwr_ok q1 hO) (s267_13 (K0 (fun e => h (hk.1.mpr e)) _ q2))
end MCM
