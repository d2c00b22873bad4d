/-! sayMake. -/
section MMM
variable {kc : List va_E} {d : Nat} {Q : Option fx_V → fx_M → Prop} {Z : PZ}
theorem mnL_3 {a : Nat} : (mnL (a : Int) 2 < 2 ↔ a < 2) ∧ 0 ≤ mnL (a : Int) 2 ∧ mnL (a : Int) 2 ≤ 2 := by
  unfold mnL
  split <;> omega
theorem mk_body {M0 M : fx_M} {k : Int} {r : Int → Int} {ZF : PZ} {i : Nat} (hk : 0 ≤ k ∧ k ≤ 1) (ho : pz_ok Z) (hz : mz M 0 Z) (hi : (i : Int) < Z.1 * Z.2.1) (hr : M 168 (i : Int) = r i) (hrb : 0 ≤ r i ∧ r i < Z.1 * Z.2.1) (hf : fgv M0 M) (nx : ∀ M', mz M' 0 (mkS k (Z.1 * Z.2.1) Z (r i)) → fgv M0 M' → wp kc (d + 8) 281 142 [some (jR 133), none, some (jI k), none, none, some (jI ((i : Int) + 1)), none, none, none, none] [] M' Q) : wp kc (d + 8) 281 142 [some (jR 133), none, some (jI k), none, none, some (jI i), none, none, none, none] [] M Q := by
  have h9 := pz_n ho
  have hob := othC_b (k := k) hrb
  obtain ⟨c, hc⟩ : ∃ c : Nat, r i = (c : Int) := ⟨(r i).toNat, by omega⟩
  obtain ⟨o, ho2⟩ : ∃ o : Nat, othC k (Z.1 * Z.2.1) (r i) = (o : Int) := ⟨(othC k (Z.1 * Z.2.1) (r i)).toNat, by omega⟩
  have hg := gv_b ho (c := c)
  have hgo := gv_b ho (c := o)
  have e0 : ∀ (T : PZ), mkS k (Z.1 * Z.2.1) Z (r i) = if 0 ≤ gv Z c ∧ (ans (gdel (gdel Z c) o)).length < 2 then gdel (gdel Z c) o else Z := fun _ => by
    unfold mkS
    rw [ho2, hc]
    simp only [Int.toNat_natCast]
  rw [hc] at hrb hr
  rw [ho2] at hob
  -- from both givens on
  have main : wp kc (d + 8) 281 195 [some (jR 133), none, some (jI k), none, none, some (jI i), some (jI c), some (jI o), some (jI (gv Z c)), none] [jI (gv Z o)] M Q := by
    refine s281_195 ⟨⟨by omega, by omega⟩, fun hp => ⟨⟨by omega, by omega⟩, ⟨by omega, by omega⟩, ?_⟩, fun hn => nx M ?_ hf⟩
    · have z1 := mz_giv (s := -1) ho hz (c := c) (by omega)
      have o1 := gdel_ok ho hrb.2
      have z2 := mz_giv (s := -1) o1 z1 (c := o) (by omega)
      have o2 := gdel_ok o1 (show (o : Int) < (gdel Z c).1 * (gdel Z c).2.1 from hob.2)
      have hk2 := mnL_3 (a := (ans (gdel (gdel Z c) o)).length)
      refine sp_countAnswers (Z := gdel (gdel Z c) o) o2 z2 ⟨by omega, by omega⟩ (fun M' hf' => s281_226 ⟨⟨by omega, by omega⟩, fun h => ⟨⟨by omega, by omega⟩, ⟨by omega, by omega⟩, nx _ ?_ ?_⟩, fun h => nx _ ?_ ?_⟩)
      · rw [e0 Z, if_neg (fun x => by have := hk2.1.mpr x.2; omega)]
        refine mz_again (Z2 := Z) hz rfl rfl rfl rfl (fun q hq => ?_) (fun b j h1 h2 => ?_)
        · by_cases eo : q = o
          · subst eo
            rw [fx_up_self]
          · rw [fx_up_nk (by omega)]
            by_cases ec : q = c
            · subst ec
              rw [fx_up_self]
            · rw [fx_up_nk (by omega), hf' 154 _ (by decide) (by decide), fx_up_nk (by omega), fx_up_nk (by omega)]
              exact mz_gv hz hq
        · rw [fx_up_na (by omega), fx_up_na (by omega), hf' b j (by omega) (by omega), fx_up_na (by omega), fx_up_na (by omega)]
      · exact fgv_tr hf (fgv_tr (fgv_up ⟨by omega, by omega⟩) (fgv_tr (fgv_up ⟨by omega, by omega⟩) (fgv_tr (fgv_of hf') (fgv_tr (fgv_up ⟨by omega, by omega⟩) (fgv_up ⟨by omega, by omega⟩)))))
      · rw [e0 Z, if_pos ⟨hp, hk2.1.mp h⟩]
        exact mz_f159 z2 hf'
      · exact fgv_tr hf (fgv_tr (fgv_up ⟨by omega, by omega⟩) (fgv_tr (fgv_up ⟨by omega, by omega⟩) (fgv_of hf')))
    · rw [e0 Z, if_neg (fun x => by omega)]
      exact hz
  refine s281_142 (s248 (s281_148 ?_))
  rw [hz.1, hz.2.1]
  refine ⟨⟨⟨by omega, by omega⟩, ⟨by omega, by omega⟩⟩, fun h => by omega, fun _ => ⟨⟨by omega, by omega⟩, ⟨by omega, by omega⟩, fun hk1 => ?_, fun hk1 => ?_⟩⟩
  · rw [hr]
    have eo : (o : Int) = c := by
      rw [← ho2]
      unfold othC
      rw [if_neg hk1, hc]
    refine s271 ⟨⟨by omega, by omega⟩, s281_187 (s271 ⟨⟨by omega, by omega⟩, ?_⟩)⟩
    rw [mz_gv hz (by omega)]
    have eo2 : o = c := by omega
    subst eo2
    exact main
  · rw [hr]
    have eo : (o : Int) = Z.1 * Z.2.1 - 1 - c := by
      rw [← ho2]
      unfold othC
      rw [if_pos hk1, hc]
    refine s248 (s281_169 ?_)
    rw [hz.1, hz.2.1]
    refine s271 ⟨⟨by omega, by omega⟩, s281_187 (s271 ⟨⟨by omega, by omega⟩, ?_⟩)⟩
    rw [← eo, mz_gv hz (by omega), mz_gv hz (by omega)]
    exact main
theorem mk_loop {M0 : fx_M} {k : Int} {r : Int → Int} {ZF : PZ} (hk : 0 ≤ k ∧ k ≤ 1) {n : Int} (hr : ∀ q : Int, 0 ≤ q → q < n → M0 168 q = r q ∧ 0 ≤ r q ∧ r q < n) (K : ∀ M', fgv M0 M' → mz M' 0 ZF → pz_ok ZF → wc kc (d + 7) 215 [jR 133] M' (fun v M1 => wp kc (d + 8) 281 261 [some (jR 133), none, none, none, none, none, none, none, none, none] (v.toList ++ []) M1 Q)) : ∀ (t i : Nat) (Z : PZ) (M : fx_M), Z.1 * Z.2.1 = n → (i : Int) + t = n → pz_ok Z → mz M 0 Z → mkR k n r t i Z = ZF → fgv M0 M → wp kc (d + 8) 281 142 [some (jR 133), none, some (jI k), none, none, some (jI i), none, none, none, none] [] M Q := by
  intro t
  induction t with
  | zero =>
    intro i Z M hn hi ho hz he hf
    have h9 := pz_n ho
    refine s281_142 (s248 (s281_148 ?_))
    rw [hz.1, hz.2.1]
    refine ⟨⟨⟨by omega, by omega⟩, ⟨by omega, by omega⟩⟩, fun _ => ?_, fun h => by omega⟩
    have he : Z = ZF := he
    subst he
    exact K M hf hz ho
  | succ t ih =>
    intro i Z M hn hi ho hz he hf
    obtain ⟨hr1, hr2⟩ := hr i (by omega) (by omega)
    refine mk_body (M0 := M0) (r := r) (ZF := ZF) hk ho hz (by omega) (by rw [hf 168 _ (by decide) (by decide) (by omega)]; exact hr1) (by rw [hn]; exact hr2) hf (fun M' z' f' => ?_)
    rw [hn] at z'
    have hs := mkS_sz (k := k) (n := n) (Z := Z) (c := r i)
    have o' := mkS_ok (k := k) (Z := Z) (c := r i) ho (by rw [hn]; exact hr2)
    rw [hn] at o'
    have := ih (i + 1) (mkS k n Z (r i)) M' (by rw [hs.1, hs.2]; exact hn) (by omega) o' z' (by rw [mkR] at he; exact he) f'
    rw [show ((i + 1 : Nat) : Int) = (i : Int) + 1 by omega] at this
    exact this
def tNoKind : List Int := t_no 1802071652
theorem fgv_sz {n : Int} {M N : fx_M} (h : fgv M N) (hl : M 146 0 * M 147 0 = n) : N 146 0 * N 147 0 = n := by
  rw [h 146 _ (by decide) (by decide) (by omega), h 147 _ (by decide) (by decide) (by omega)]
  exact hl
theorem sp_sayMake {M V : fx_M} {seed k : Int} (ho : pz_ok Z) (hz : mz M 0 Z) (hv : mpv M V) (hO : m_ok M) (hs : 0 ≤ seed ∧ seed < 1000000000) (hk : 0 ≤ k ∧ k < 1000) (K0 : 1 < k → Q none (m_app M tNoKind)) (K1 : k ≤ 1 → ans (zfre Z) = [] → ∀ M', mwr M M' (wls 1852796517) → Q none M') (K2 : k ≤ 1 → ans (zfre Z) ≠ [] → pz_ok (zMk Z seed k) → ∀ M', (∀ b j, ¬ msc b j → ¬ (b = 154 ∧ 0 ≤ j ∧ j < 9) → ¬ (174 ≤ b ∧ b ≤ 177) → M' b j = m_app M (tMade Z seed k) b j) → mz M' 0 (zMk Z seed k) → mpv M' (pv_new V) → Q none M') : wc kc (d + 8) 281 [jR 133, jI seed, jI k] M Q := by
  have h9 := pz_n ho
  refine s281 ⟨⟨by omega, by omega⟩, fun hk1 => ?_, fun hk1 => sp_sayNo (by unfold w_ok; omega) hO (s281_12 (K0 hk1))⟩
  refine sp_keepGivens (fun M1 g1 g2 => s281_17 ?_)
  refine mk_clear (M0 := M1) (fun M2 c1 c2 => ?_) 9 0 M1 (by omega) (fun q h => by omega) (fun _ _ _ => rfl)
  have zo := zfre_ok ho
  have z2 : mz M2 0 (zfre Z) := mz_again (Z2 := Z) hz rfl rfl rfl rfl (fun c hc => by
    rw [c1 c hc]
    show -1 = (List.replicate 9 (-1 : Int)).getD c (-1)
    rw [List.getD_eq_getElem?_getD, List.getElem?_replicate]
    split <;> rfl) (fun b j h1 h2 => by rw [c2 b j (by omega), g2 b j (by omega)])
  have hlen := ans_le zo
  have w2 : mwg M M2 [] := fun b j h1 h2 => by
    rw [c2 b j h2, g2 b j (by rintro rfl; exact h1 (by unfold msc; omega))]
    rfl
  refine sp_countAnswers zo z2 ⟨by omega, by omega⟩ (fun M3 f3 => ?_)
  have em : mnL ((ans (zfre Z)).length : Int) 1000000 = (ans (zfre Z)).length := by
    unfold mnL
    rw [if_pos (by omega)]
  rw [em]
  have w3 := mwg_tr w2 (mwg_of (mwr_159 f3))
  refine s281_45 ⟨⟨by omega, by omega⟩, fun hne => ⟨⟨by omega, by omega⟩, ?_⟩, fun h0 => ?_⟩
  · have hne2 : ans (zfre Z) ≠ [] := fun e => hne (by rw [e]; rfl)
    have hb := dwv_b (s := seed) (k := (ans (zfre Z)).length) (by omega)
    refine sp_draw ⟨by omega, by omega⟩ (s281_73 ?_)
    rw [fx_up_self]
    obtain ⟨n, hn⟩ : ∃ n : Nat, dwv seed (ans (zfre Z)).length = (n : Int) := ⟨(dwv seed (ans (zfre Z)).length).toNat, by omega⟩
    rw [hn]
    have z3 := mz_f159 z2 f3
    have hu : ∀ (b : Nat) (j : Int), ¬ (b = 133 ∧ j = 71) → (fx_up (fx_up M3 133 71 seed) 133 71 (dws seed)) b j = M3 b j := fun b j h => by rw [fx_up_ne h, fx_up_ne h]
    have z4 : mz (fx_up (fx_up M3 133 71 seed) 133 71 (dws seed)) 0 (zfre Z) := mz_again (Z2 := zfre Z) z3 rfl rfl rfl rfl (fun c hc => by rw [hu _ _ (by omega)]; exact mz_gv z3 hc) (fun b j h1 h2 => hu b j (by omega))
    refine sp_seek1 zo z4 (fun M5 a tl e5 f5 m5 s5 => s281_80 ?_) (fun e => absurd e hne2)
    refine mk_pick (Z := zfre Z) (M0 := M5) zo (by omega) (by omega) (fun M6 x hx f6 s6 => ?_) n 0 M5 a (by omega) f159_rf m5 (by rw [e5]; rfl) s5
    have f46 := f159_tr f5 f6
    have xm := mem_at hx
    obtain ⟨xl, xv⟩ := ans_len xm
    have xl : x.length = (Z.1 * Z.2.1).toNat := xl
    have z6 := mz_f159 z4 f46
    have l6 : M6 146 0 * M6 147 0 = x.length := by
      rw [z6.1, z6.2.1, xl]
      show Z.1 * Z.2.1 = _
      omega
    refine mk_set (M0 := M6) (by omega) l6 s6 (fun M7 k1 k2 => ?_) x.length 0 M6 (by omega) (fun q h => by omega) (fun _ _ _ => rfl)
    have zfo := zfil_ok ho xm
    have z7 : mz M7 0 (zfil Z x) := mz_again (Z2 := zfre Z) z6 rfl rfl rfl rfl (fun c hc => by
      rw [zfil_gv (by omega)]
      by_cases e : c < x.length
      · rw [if_pos e, k1 c e]
      · rw [if_neg e, k2 154 _ (by omega), mz_gv z6 hc]
        show (List.replicate 9 (-1 : Int)).getD c (-1) = -1
        rw [List.getD_eq_getElem?_getD, List.getElem?_replicate]
        split <;> rfl) (fun b j h1 h2 => k2 b j (by omega))
    have l7 : M7 146 0 * M7 147 0 = ((Z.1 * Z.2.1).toNat : Nat) := by
      rw [z7.1, z7.2.1]
      show Z.1 * Z.2.1 = _
      omega
    have e71 : M7 133 71 = dws seed := by
      rw [k2 _ _ (by omega), f46 _ _ (by decide) (by decide), fx_up_self]
    refine sp_shuffle (n := (Z.1 * Z.2.1).toNat) (by omega) l7 (fun M8 r1 r2 => s281_139 ?_)
    rw [e71] at r1
    have z8 : mz M8 0 (zfil Z x) := mz_again (Z2 := zfil Z x) z7 rfl rfl rfl rfl (fun c hc => by rw [r2 _ _ (by decide) (by omega)]; exact mz_gv z7 hc) (fun b j h1 h2 => r2 b j (by omega) (by omega))
    have w8 : mwg M M8 [] := fun b j h1 h2 => by
      have n1 : ¬ (155 ≤ b ∧ b ≤ 173) := fun h => h1 (Or.inl h)
      have n2 : ¬ (b = 133 ∧ 46 ≤ j ∧ j ≤ 79) := fun h => h1 (Or.inr h)
      rw [r2 b j (by omega) (by omega), k2 b j (by omega), f46 b j (by omega) (by omega), hu b j (by omega)]
      exact w3 b j h1 h2
    have ezm : mkR k (Z.1 * Z.2.1) (shf ((Z.1 * Z.2.1).toNat - 1) (dws seed) (fun i => i)).2 (Z.1 * Z.2.1).toNat 0 (zfil Z x) = zMk Z seed k := by
      unfold zMk
      rw [hn, Int.toNat_natCast, List.getD_eq_getElem?_getD, hx]
      rfl
    refine mk_loop (M0 := M8) (n := Z.1 * Z.2.1) (r := (shf ((Z.1 * Z.2.1).toNat - 1) (dws seed) (fun i => i)).2) (ZF := zMk Z seed k) ⟨hk.1, hk1⟩ (fun q h1 h2 => ⟨r1 q h1 (by omega), shf_in (n := Z.1 * Z.2.1) _ _ _ (by omega) (fun k h1 h2 => ⟨h1, h2⟩) q h1 h2⟩) (fun M9 f9 z9 o9 => ?_) (Z.1 * Z.2.1).toNat 0 (zfil Z x) M8 rfl (by omega) zfo z8 ezm fgv_rf
    have q9 : mwg M M9 [] := mwg_tr w8 (mwg_fgv f9)
    have v9 : mpv M9 V := by
      refine ⟨?_, fun i j i1 i8 j0 j1 => ?_⟩
      · rw [q9 133 80 (by unfold msc; omega) (by omega)]
        exact hv.1
      · rw [← hv.2 i j i1 i8 j0 j1]
        have hb := pvM_b i1 i8
        rw [q9 (pvM i) j (by unfold msc; omega) (by omega)]
        rfl
    refine sp_playAnew v9 (fun MA vA fA => s281_261 ?_)
    have zA : mz MA 0 (zMk Z seed k) := mz_again (Z2 := zMk Z seed k) z9 rfl rfl rfl rfl (fun c hc => by rw [fA _ _ (by omega)]; exact mz_gv z9 hc) (fun b j h1 h2 => fA b j (by omega))
    refine sp_countGivens o9 zA (s281_269 ?_)
    have hOA : m_ok MA := by
      have := mwg_ok q9 hO
      unfold m_ok at this ⊢
      rw [fA 133 5 (by omega)]
      exact this
    have hcg := cgv_le o9
    refine sp_sayCount (by unfold w_ok; omega) hOA (by omega) (by omega) (s281_272 (K2 hk1 hne2 o9 _ (fun b j hb hg hp => ?_) (mz_mwr zA mwr_app) ?_))
    · have e1 : MA 133 5 = M9 133 5 := fA 133 5 (by omega)
      have e2 := m_app_cg (cs := tMade Z seed k) e1 (fun j => fA 136 j (by omega))
      have e3 := (mwg_tr q9 (mwg_of (mwr_app (M := M9) (cs := tMade Z seed k)))) b j hb hg
      rw [List.nil_append] at e3
      rw [← e3]
      by_cases h136 : b = 136
      · subst h136
        exact e2.2 j
      · by_cases h5 : b = 133 ∧ j = 5
        · obtain ⟨rfl, rfl⟩ := h5
          exact e2.1
        · rw [m_app_ne h5 h136, m_app_ne h5 h136]
          exact fA b j hp
    · refine ⟨by rw [m_app_ne (by omega) (by decide)]; exact vA.1, fun i j i1 i8 j0 j1 => ?_⟩
      have hb := pvM_b i1 i8
      rw [m_app_ne (by omega) (by omega)]
      exact vA.2 i j i1 i8 j0 j1
  · have e0 : ans (zfre Z) = [] := List.length_eq_zero_iff.mp (by omega)
    refine sp_takeGivens (fun M4 t1 t2 => s281_54 ?_)
    have w4 : mwr M M4 [] := fun b j hb => by
      show M4 b j = M b j
      by_cases hg : b = 154 ∧ 0 ≤ j ∧ j < 9
      · obtain ⟨rfl, hj1, hj2⟩ := hg
        have hj : ((j.toNat : Nat) : Int) = j := by omega
        rw [← hj, t1 _ (by omega), f3 167 _ (by decide) (by decide), c2 167 _ (by omega), g1 _ (by omega)]
      · rw [t2 b j hg]
        exact w3 b j hb hg
    refine sp_sayWord w_ok_none (mwr_ok w4 hO) (s281_61 (K1 hk1 e0 _ ?_))
    exact mwr_tr w4 mwr_app
end MMM
