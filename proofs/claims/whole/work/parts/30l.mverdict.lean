/-! The reference's lines by units, of answers; its verdict. -/
section MVD
variable {kc : List va_E} {d : Nat} {Q : Option fx_V → fx_M → Prop} {Z : PZ} {A : List LN}
theorem f156_tr {M N O : fx_M} (h1 : f156 M N) (h2 : f156 N O) : f156 M O := fun b j h => (h2 b j h).trans (h1 b j h)
theorem s_16 (ho : pz_ok Z) {S : Nat → Nat} (hs : s_ok Z S) : ∀ c : Nat, (c : Int) < Z.1 * Z.2.1 → S c < 16 := fun c hc => by
  have h9 := pz_n ho
  exact s10 ho hs c (by omega)
theorem s_nb (ho : pz_ok Z) {S : Nat → Nat} (hs : s_go Z S) : ¬ brk Z S := fun hb => by
  obtain ⟨c, h1, h2⟩ := (brk_10 ho hs.1).mp hb
  exact hs.2 c h1 h2
/-- all lines once -/
theorem mu_pass (ho : pz_ok Z) (hr : rooA A) {k : Nat} (hk : k ≤ A.length) (hg : ∀ (j : Nat) (y : LN), j < k → A[j]? = some y → ltg Z y.2.2.2) {M0 : fx_M} : ∀ (t j : Nat) (S : Nat → Nat) (M : fx_M) (v : Int), j + t = k → (v = 0 ∨ v = 1) → f156 M0 M → mz M 0 Z → mls Z M A → s_go Z S → mst' M Z S → ((uPs ((ptL A k).drop j) S).1 = true → ∀ M', f156 M0 M' → Q (some (jI 1)) M') → ((uPs ((ptL A k).drop j) S).1 = false → ∀ M', f156 M0 M' → mz M' 0 Z → mls Z M' A → mst' M' Z (uPs ((ptL A k).drop j) S).2.1 → wp kc (d + 4) 402 56 [some (jR 133), some (jI k), some (jI (if v = 1 ∨ (uPs ((ptL A k).drop j) S).2.2 = true then 1 else 0)), none, none] [] M' Q) → wp kc (d + 4) 402 71 [some (jR 133), some (jI k), some (jI v), some (jI j), none] [] M Q := by
  intro t
  induction t with
  | zero =>
    intro j S M v hj hv hf hz hm hs hst K1 K2
    have e : j = k := by omega
    subst e
    rw [ptL_all] at K2
    have K3 := K2 rfl M hf hz hm hst
    have ev : (if v = 1 ∨ (uPs [] S).2.2 = true then (1 : Int) else 0) = v := by
      rcases hv with h | h
      · rw [h, if_neg]
        rintro (h1 | h1)
        · omega
        · cases h1
      · rw [h, if_pos (Or.inl rfl)]
    rw [ev] at K3
    exact s402_71 ⟨⟨⟨by omega, by omega⟩, ⟨by omega, by omega⟩⟩, fun _ => K3, fun h => by omega⟩
  | succ t ih =>
    intro j S M v hj hv hf hz hm hs hst K1 K2
    have hjl : j < A.length := by omega
    have hx := List.getElem?_eq_getElem hjl
    have hq := hg j _ (by omega) hx
    have hv32 : fx_in32 v := by
      rcases hv with h | h <;> rw [h] <;> exact ⟨by omega, by omega⟩
    refine s402_71 ⟨⟨⟨by omega, by omega⟩, ⟨by omega, by omega⟩⟩, fun h => by omega, fun _ => sp_canBe (d := d + 1) ho hz hst (s_16 ho hs.1) (fun _ => s402_80 ⟨⟨by omega, by omega⟩, fun h => by omega, fun _ => ?_⟩) (fun hb => absurd hb (s_nb ho hs))⟩
    refine sp_unit (d := d) ho hm hr hx hq hs hst (fun M1 f1 m1 => s402_88 ?_)
    have hz1 := mz_156 hz f1
    have hm1 := mls_156 hm f1
    have hf1 := f156_tr hf f1
    have u := unt_ok ho hs hq
    rw [ptL_drop (by omega) hx] at K1 K2
    have ej : ((j + 1 : Nat) : Int) = (j : Int) + 1 := by omega
    rcases unt_cases (S := S) (q := A[j].2.2.2) with ⟨e, _⟩ | ⟨e, _⟩ | ⟨x, e, _⟩
    · have eu : uPs (A[j].2.2.2 :: (ptL A k).drop (j + 1)) S = uPs ((ptL A k).drop (j + 1)) S := by
        rw [uPs, e]
        rfl
      rw [eu] at K1 K2
      rw [e] at m1 ⊢
      dsimp only at m1 ⊢
      have nx := ih (j + 1) S M1 v (by omega) hv hf1 hz1 hm1 hs m1 K1 K2
      rw [ej] at nx
      refine ⟨⟨by omega, by omega⟩, fun _ => ⟨hv32, fun _ => ⟨by omega, by omega⟩, ?_⟩, fun h => by omega⟩
      have ev : (if v = 0 then (if ((0 : Nat) : Int) = 1 then (1 : Int) else 0) else 1) = v := by
        rcases hv with h | h
        · rw [h, if_pos rfl, if_neg (by omega)]
        · rw [h, if_neg (by decide)]
      rw [ev]
      exact nx
    · rw [e]
      dsimp only
      refine ⟨⟨by omega, by omega⟩, fun h => absurd rfl h, fun _ => K1 ?_ M1 hf1⟩
      rw [uPs, e]
      rfl
    · have eu : uPs (A[j].2.2.2 :: (ptL A k).drop (j + 1)) S = ((uPs ((ptL A k).drop (j + 1)) (mkT S x)).1, (uPs ((ptL A k).drop (j + 1)) (mkT S x)).2.1, true) := by
        rw [uPs, e]
        rfl
      rw [eu] at K1 K2
      rw [e] at m1 u ⊢
      dsimp only at m1 ⊢
      have nx := ih (j + 1) (mkT S x) M1 1 (by omega) (Or.inr rfl) hf1 hz1 hm1 u.1 m1 K1 (fun h M' a1 a2 a3 a4 => by
        have := K2 h M' a1 a2 a3 a4
        rw [if_pos (Or.inr rfl)] at this
        rw [if_pos (Or.inl rfl)]
        exact this)
      rw [ej] at nx
      refine ⟨⟨by omega, by omega⟩, fun _ => ⟨hv32, fun _ => ⟨by omega, by omega⟩, ?_⟩, fun h => by omega⟩
      have ev : (if v = 0 then (if ((1 : Nat) : Int) = 1 then (1 : Int) else 0) else 1) = 1 := by
        by_cases h : v = 0
        · rw [if_pos h, if_pos (by omega)]
        · rw [if_neg h]
      rw [ev]
      exact nx
theorem ptL_g {k : Nat} (hg : ∀ (j : Nat) (y : LN), j < k → A[j]? = some y → ltg Z y.2.2.2) : ∀ q ∈ ptL A k, ltg Z q := fun q hq => by
  unfold ptL at hq
  obtain ⟨x, hx, rfl⟩ := List.mem_map.mp hq
  obtain ⟨j, hj, e⟩ := List.mem_iff_getElem.mp hx
  rw [List.length_take] at hj
  rw [List.getElem_take] at e
  exact hg j x (by omega) (by rw [List.getElem?_eq_getElem (by omega), e])
theorem mu_lp (ho : pz_ok Z) (hr : rooA A) {k : Nat} (hk : k ≤ A.length) (hg : ∀ (j : Nat) (y : LN), j < k → A[j]? = some y → ltg Z y.2.2.2) {M0 : fx_M} : ∀ (f : Nat) (S : Nat → Nat) (M : fx_M), pS S 10 < f → f156 M0 M → mz M 0 Z → mls Z M A → s_go Z S → mst' M Z S → (uRn (ptL A k) f S = true → ∀ M', f156 M0 M' → Q (some (jI 1)) M') → (uRn (ptL A k) f S = false → ∀ M', f156 M0 M' → Q (some (jI 0)) M') → wp kc (d + 4) 402 56 [some (jR 133), some (jI k), some (jI 1), none, none] [] M Q := by
  intro f
  induction f with
  | zero =>
    intro S M h
    omega
  | succ f ih =>
    intro S M hp hf hz hm hs hst K1 K0
    have u := uPs_ok ho hs (ptL_g hg)
    rw [uRn] at K1 K0
    refine s402_56 ⟨⟨by omega, by omega⟩, fun h => by omega, fun _ => sp_canBe (d := d + 1) ho hz hst (s_16 ho hs.1) (fun _ => s402_64 ⟨⟨by omega, by omega⟩, fun h => by omega, fun _ => mu_pass ho hr hk hg k 0 S M 0 (by omega) (Or.inl rfl) hf hz hm hs hst (fun h1 M' f' => K1 (by rw [List.drop_zero] at h1; rw [if_pos h1]) M' f') (fun h1 M' f' z' m' st' => ?_)⟩) (fun hb => absurd hb (s_nb ho hs))⟩
    rw [List.drop_zero] at h1 st' ⊢
    rw [if_neg (by rw [h1]; decide)] at K1 K0
    by_cases hc : (uPs (ptL A k) S).2.2 = true
    · rw [if_pos hc] at K1 K0
      rw [if_pos (Or.inr hc)]
      have h3 := u.2.2.1 hc
      exact ih _ M' (by omega) f' z' m' u.1 st' K1 K0
    · rw [if_neg hc] at K0
      have hn : ¬ ((0 : Int) = 1 ∨ (uPs (ptL A k) S).2.2 = true) := by
        rintro (h | h)
        · omega
        · exact hc h
      rw [if_neg hn]
      refine s402_56 ⟨⟨by omega, by omega⟩, fun _ => sp_canBe (d := d + 1) ho z' st' (s_16 ho u.1.1) (fun _ => s402_127 ⟨⟨by omega, by omega⟩, ?_⟩) (fun hb => absurd hb (s_nb ho u.1)), fun h => absurd rfl h⟩
      rw [if_neg (by decide)]
      exact ⟨⟨by omega, by omega⟩, K0 rfl M' f'⟩
theorem sp_mByUnits (ho : pz_ok Z) {M : fx_M} (hz : mz M 0 Z) (hm : mls Z M A) (hr : rooA A) {k : Nat} {x : LN} (hx : A[k]? = some x) (hgx : ltg Z x.2.2.2) (hg : ∀ (j : Nat) (y : LN), j < k → A[j]? = some y → ltg Z y.2.2.2) (K1 : unL Z (ptL A k) x → ∀ M', f156 M M' → Q (some (jI 1)) M') (K0 : ¬ unL Z (ptL A k) x → ∀ M', f156 M M' → Q (some (jI 0)) M') : wc kc (d + 4) 402 [jR 133, jI k] M Q := by
  have h9 := pz_n ho
  have hkl := (List.getElem?_eq_some_iff.mp hx).1
  have hoe := off_end hx
  -- the loop behind the literals
  have tail : ∀ N, f156 M N → mz N 0 Z → mls Z N A → mst' N Z (dnS Z x.2.2.2) → wp kc (d + 4) 402 56 [some (jR 133), some (jI k), some (jI 1), none, none] [] N Q := fun N fN zN mN st => by
    by_cases hb : brk Z (dnS Z x.2.2.2)
    · refine s402_56 ⟨⟨by omega, by omega⟩, fun h => by omega, fun _ => sp_canBe (d := d + 1) ho zN st (s_16 ho (dnS_ok ho)) (fun h => absurd hb h) (fun _ => s402_64 ⟨⟨by omega, by omega⟩, fun _ => sp_canBe (d := d + 1) ho zN st (s_16 ho (dnS_ok ho)) (fun h => absurd hb h) (fun _ => s402_127 ⟨⟨by omega, by omega⟩, ?_⟩), fun h => absurd rfl h⟩)⟩
      rw [if_pos rfl]
      exact ⟨⟨by omega, by omega⟩, K1 (Or.inl hb) N fN⟩
    · have hs : s_go Z (dnS Z x.2.2.2) := ⟨dnS_ok ho, fun c hc h0 => hb ((brk_10 ho (dnS_ok ho)).mpr ⟨c, hc, h0⟩)⟩
      have hp40 : pS (dnS Z x.2.2.2) 10 < 40 := by
        have e9 : dnS Z x.2.2.2 9 = 1 := (hs.1 9 (by omega)).2 (by omega)
        have := pS_le (S := dnS Z x.2.2.2) 9
        have e1 : pop4 1 = 1 := by decide
        rw [pS, e9, e1]
        omega
      exact mu_lp ho hr (by omega) hg 40 _ N hp40 fN zN mN hs st (fun h => K1 (Or.inr h)) (fun h => K0 (fun hn => by
        rcases hn with hn | hn
        · exact hb hn
        · rw [h] at hn
          cases hn))
  -- the literals made not so
  have lits : ∀ (t i : Nat) (N : fx_M), i + t = x.2.2.2.length → f156 M N → mz N 0 Z → mls Z N A → mst' N Z ((x.2.2.2.take i).foldl dny (s_free Z)) → wp kc (d + 4) 402 28 [some (jR 133), some (jI k), some (jI i), none, none] [] N Q := by
    intro t
    induction t with
    | zero =>
      intro i N hi fN zN mN st
      rw [List.take_of_length_le (by omega)] at st
      exact s402_28 (sp_lits (d := d + 2) mN hr hx (s402_34 ⟨⟨⟨by omega, by omega⟩, ⟨by omega, by omega⟩⟩, fun _ => tail N fN zN mN (fun c hc => by rw [st c hc, dny_dn ho hgx hc]), fun h => by omega⟩))
    | succ t ih =>
      intro i N hi fN zN mN st
      have hil : i < x.2.2.2.length := by omega
      have hzi := List.getElem?_eq_getElem hil
      have hzm := List.getElem_mem hil
      refine s402_28 (sp_lits (d := d + 2) mN hr hx (s402_34 ⟨⟨⟨by omega, by omega⟩, ⟨by omega, by omega⟩⟩, fun h => by omega, fun _ => sp_litAt (d := d + 2) mN hr hx hzi (s402_44 (sp_makeSo (d := d + 1) ho st (fun c hc => dny_16s (s10 ho (s_free_ok ho) c (by omega))) hgx hzm (Or.inl rfl) (fun N1 f1 m1 => s402_48 ?_)))⟩))
      have nx := ih (i + 1) N1 (by omega) (f156_tr fN f1) (mz_156 zN f1) (mls_156 mN f1) (fun c hc => by
        rw [m1 c hc, take1 hzi, List.foldl_append, List.foldl_cons, List.foldl_nil]
        generalize List.foldl dny (s_free Z) (List.take i x.2.2.2) = T
        unfold dny
        dsimp only
        by_cases e : c = x.2.2.2[i].2.1.toNat
        · rw [if_pos e, if_pos e]
          by_cases h0 : x.2.2.2[i].1 = 0
          · simp [h0]
          · simp [h0]
        · rw [if_neg e, if_neg e])
      rw [show ((i + 1 : Nat) : Int) = (i : Int) + 1 by omega] at nx
      exact nx
  -- all symbols
  have full : ∀ (t c : Nat) (N : fx_M), (c : Int) + t = Z.1 * Z.2.1 → f156 M N → mz N 0 Z → mls Z N A → (∀ c' : Nat, c' < c → N 156 (c' : Int) = (s_free Z c' : Nat)) → wp kc (d + 4) 402 2 [some (jR 133), some (jI k), some (jI c), none, none] [] N Q := by
    intro t
    induction t with
    | zero =>
      intro c N hc fN zN mN st
      refine s402_2 (s248 (s402_7 ?_))
      rw [zN.1, zN.2.1]
      exact ⟨⟨⟨by omega, by omega⟩, ⟨by omega, by omega⟩⟩, fun _ => lits x.2.2.2.length 0 N (by omega) fN zN mN (fun c' hc' => by rw [List.take_zero]; exact st c' (by omega)), fun h => by omega⟩
    | succ t ih =>
      intro c N hc fN zN mN st
      have h4 := ho.2.2.2.2.2.1
      have h1 := ho.2.2.2.2.1
      have hp := Nat.one_le_two_pow (n := Z.2.2.1.toNat)
      have e : fx_shl 1 (N 148 0) - 1 = ((s_free Z c : Nat) : Int) := by
        rw [zN.2.2.1, fx_shl_1 ⟨by omega, by omega⟩]
        unfold s_free
        rw [if_pos (by omega)]
        generalize 2 ^ Z.2.2.1.toNat = p at hp
        omega
      refine s402_2 (s248 (s402_7 ?_))
      rw [zN.1, zN.2.1]
      refine ⟨⟨⟨by omega, by omega⟩, ⟨by omega, by omega⟩⟩, fun h => by omega, fun _ => s296 (s402_19 ⟨⟨by omega, by omega⟩, ?_⟩)⟩
      rw [e]
      have f1 : f156 N (fx_up N 156 (c : Int) ((s_free Z c : Nat) : Int)) := fun b j h => fx_up_na h
      have nx := ih (c + 1) _ (by omega) (f156_tr fN f1) (mz_156 zN f1) (mls_156 mN f1) (fun c' hc' => by
        by_cases e2 : c' = c
        · subst e2
          rw [fx_up_self]
        · rw [fx_up_nk (by omega)]
          exact st c' (by omega))
      rw [show ((c + 1 : Nat) : Int) = (c : Int) + 1 by omega] at nx
      exact nx
  exact s402 (full (Z.1 * Z.2.1).toNat 0 M (by omega) (fun _ _ _ => rfl) hz hm (fun c hc => by omega))
end MVD
