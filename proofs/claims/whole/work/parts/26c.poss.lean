/-! findPossible of the reference. -/
/-- the reference's standing -/
def mst' (M : fx_M) (Z : PZ) (S : Nat → Nat) : Prop := ∀ c : Nat, (c : Int) < Z.1 * Z.2.1 → M 156 (c : Int) = (S c : Nat)
theorem mst_158 {M N : fx_M} {Z : PZ} {S : Nat → Nat} (h : mst' M Z S) (hf : f158 M N) : mst' N Z S := fun c hc => by
  rw [hf 156 _ (by decide) (by decide) (by decide) (by omega)]
  exact h c hc
theorem mst_msk {M : fx_M} {Z : PZ} {S : Nat → Nat} {J : List Int} (h : mst' M Z S) (hJ : ∀ c ∈ J, 0 ≤ c ∧ c < Z.1 * Z.2.1) : mkm M 0 J = msk S J := by
  unfold mkm msk
  apply List.map_congr_left
  intro c hc
  have hb := hJ c hc
  have := h c.toNat (by omega)
  rw [show ((c.toNat : Nat) : Int) = c by omega] at this
  rw [if_pos rfl, this, Int.toNat_natCast]
theorem mst_mkb {M : fx_M} {Z : PZ} {S : Nat → Nat} {J : List Int} (h : mst' M Z S) (hs : ∀ c : Nat, (c : Int) < Z.1 * Z.2.1 → S c < 16) (hJ : ∀ c ∈ J, 0 ≤ c ∧ c < Z.1 * Z.2.1) : mkb M 0 J := fun i hi => by
  have hb := hJ _ (getD_mem hi)
  have := h (J.getD i 0).toNat (by omega)
  rw [show (((J.getD i 0).toNat : Nat) : Int) = J.getD i 0 by omega] at this
  have h16 := hs (J.getD i 0).toNat (by omega)
  exact ⟨fun _ => by rw [this]; omega, fun h0 => absurd rfl h0⟩
/-- possible symbols of the joint cells -/
def psS (M : fx_M) (Z : PZ) (R : PR) (s : Option PR) (S : Nat → Nat) : Prop := ∀ i : Nat, i < (jnC R s).length → ∃ m : Nat, m < 16 ∧ M 158 (i : Int) = (m : Int) ∧ ∀ y : Nat, y < 4 → (m.testBit y = true ↔ ∃ f, fit S (jnC R s) f ∧ okf Z R s f ∧ f ((jnC R s).getD i 0) = (y : Int))
/-- so far -/
def psK (M : fx_M) (Z : PZ) (R : PR) (s : Option PR) (A : List (List Int)) : Prop := ∀ i : Nat, i < (jnC R s).length → ∃ m : Nat, m < 16 ∧ M 158 (i : Int) = (m : Int) ∧ ∀ y : Nat, y < 4 → (m.testBit y = true ↔ ∃ f, (jnC R s).map f ∈ A ∧ okf Z R s f ∧ f ((jnC R s).getD i 0) = (y : Int))
theorem or_one : ∀ (m : Fin 16) (y : Fin 4), fx_or ((m : Nat) : Int) (fx_shl 1 ((y : Nat) : Int)) = (((m : Nat) ||| 2 ^ (y : Nat) : Nat) : Int) ∧ (m : Nat) ||| 2 ^ (y : Nat) < 16 := by decide +kernel
section PSC
variable {kc : List va_E} {d : Nat} {Q : Option fx_V → fx_M → Prop} {Z : PZ} {R : PR} {r : Nat} {s : Option PR} {q : Int} {S : Nat → Nat}
theorem map_getD {J : List Int} {f : Int → Int} {i : Nat} (hi : i < J.length) : (J.map f).getD i 0 = f (J.getD i 0) := by
  rw [List.getD_eq_getElem?_getD, List.getElem?_map, List.getElem?_eq_getElem hi, List.getD_eq_getElem?_getD, List.getElem?_eq_getElem hi]
  rfl
/-- a met way is added -/
theorem add_loop {M0 : fx_M} {J : List Int} (hj : mjt M0 J) {f : Int → Int} (hf4 : ∀ c ∈ J, 0 ≤ f c ∧ f c < 4) (hsy : ∀ c ∈ J, M0 155 c = f c) (h16 : ∀ i : Nat, i < J.length → ∃ m : Nat, m < 16 ∧ M0 158 (i : Int) = (m : Int)) (K : ∀ M', (∀ b j, b ≠ 158 → M' b j = M0 b j) → (∀ i : Nat, i < J.length → M' 158 (i : Int) = (((M0 158 (i : Int)).toNat ||| 2 ^ (f (J.getD i 0)).toNat : Nat) : Int)) → wc kc (d + 3) 303 [jR 133, jI 0] M' (fun v M1 => wp kc (d + 4) 297 111 [some (jR 133), some (jI r), some (jI q), none, none] (v.toList ++ []) M1 Q)) : ∀ (t i : Nat) (M : fx_M), i + t = J.length → (∀ b j, b ≠ 158 → M b j = M0 b j) → (∀ k : Nat, k < i → M 158 (k : Int) = (((M0 158 (k : Int)).toNat ||| 2 ^ (f (J.getD k 0)).toNat : Nat) : Int)) → (∀ k : Nat, i ≤ k → M 158 (k : Int) = M0 158 (k : Int)) → wp kc (d + 4) 297 62 [some (jR 133), some (jI r), some (jI q), none, some (jI i)] [] M Q := by
  have h8 := hj.l8
  intro t
  induction t with
  | zero =>
    intro i M hi hfr hd hu
    refine s297_62 ?_
    rw [hfr 133 _ (by decide), hj.n]
    exact ⟨⟨⟨by omega, by omega⟩, ⟨by omega, by omega⟩⟩, fun _ => K M hfr (fun k hk => hd k (by omega)), fun h => by omega⟩
  | succ t ih =>
    intro i M hi hfr hd hu
    have hil : i < J.length := by omega
    have hm := getD_mem hil
    have hb := hj.b i hil
    have h4 := hf4 _ hm
    obtain ⟨m, hm16, em⟩ := h16 i hil
    refine s297_62 ?_
    rw [hfr 133 _ (by decide), hj.n, hfr 157 _ (by decide), hj.c i hil, hfr 155 _ (by decide), hsy _ hm, hu i (Nat.le_refl _), em]
    have ho := or_one ⟨m, hm16⟩ ⟨(f (J.getD i 0)).toNat, by omega⟩
    simp only [show (((f (J.getD i 0)).toNat : Nat) : Int) = f (J.getD i 0) by omega] at ho
    rw [ho.1]
    refine ⟨⟨⟨by omega, by omega⟩, ⟨by omega, by omega⟩⟩, fun h => by omega, fun _ => ⟨⟨by omega, by omega⟩, ⟨by omega, by omega⟩, hb, ⟨by omega, by omega⟩, ?_⟩⟩
    have nx := ih (i + 1) (fx_up M 158 (i : Int) ((m ||| 2 ^ (f (J.getD i 0)).toNat : Nat) : Int)) (by omega) (fun b j hb => by rw [fx_up_na hb]; exact hfr b j hb) (fun k hk => by
      by_cases e : k = i
      · subst e
        rw [fx_up_self, em, Int.toNat_natCast]
      · rw [fx_up_nk (by omega)]
        exact hd k (by omega)) (fun k hk => by
      rw [fx_up_nk (by omega)]
      exact hu k (by omega))
    rw [show ((i + 1 : Nat) : Int) = (i : Int) + 1 by omega] at nx
    exact nx
theorem zero_loopP {M0 : fx_M} {J : List Int} (hj : mjt M0 J) (K : ∀ M', (∀ b j, b ≠ 158 → M' b j = M0 b j) → (∀ i : Nat, i < J.length → M' 158 (i : Int) = 0) → wc kc (d + 3) 300 [jR 133, jI 0] M' (fun v M1 => wp kc (d + 4) 297 34 [some (jR 133), some (jI r), some (jI q), none, none] (v.toList ++ []) M1 Q)) : ∀ (t i : Nat) (M : fx_M), i + t = J.length → (∀ b j, b ≠ 158 → M b j = M0 b j) → (∀ k : Nat, k < i → M 158 (k : Int) = 0) → wp kc (d + 4) 297 8 [some (jR 133), some (jI r), some (jI q), some (jI i), none] [] M Q := by
  have h8 := hj.l8
  intro t
  induction t with
  | zero =>
    intro i M hi hfr hd
    refine s297_8 ?_
    rw [hfr 133 _ (by decide), hj.n]
    exact ⟨⟨⟨by omega, by omega⟩, ⟨by omega, by omega⟩⟩, fun _ => K M hfr (fun k hk => hd k (by omega)), fun h => by omega⟩
  | succ t ih =>
    intro i M hi hfr hd
    refine s297_8 ?_
    rw [hfr 133 _ (by decide), hj.n]
    refine ⟨⟨⟨by omega, by omega⟩, ⟨by omega, by omega⟩⟩, fun h => by omega, fun _ => ⟨⟨by omega, by omega⟩, ?_⟩⟩
    have nx := ih (i + 1) (fx_up M 158 (i : Int) 0) (by omega) (fun b j hb => by rw [fx_up_na hb]; exact hfr b j hb) (fun k hk => by
      by_cases e : k = i
      · subst e
        rw [fx_up_self]
      · rw [fx_up_nk (by omega)]
        exact hd k (by omega))
    rw [show ((i + 1 : Nat) : Int) = (i : Int) + 1 by omega] at nx
    exact nx
theorem take_snocL {α : Type} {l : List α} {i : Nat} {x : α} (h : l[i]? = some x) : l.take (i + 1) = l.take i ++ [x] := by
  rw [List.take_succ, h]
  rfl
/-- the joint rows of symbols, one after another -/
theorem fp_loop (ho : pz_ok Z) (hR : Z.2.2.2.1[r]? = some R) (hs : sec Z q s) (hS : ∀ c : Nat, (c : Int) < Z.1 * Z.2.1 → S c < 16) {M0 : fx_M} (K : ∀ M', f158 M0 M' → mjt M' (jnC R s) → psS M' Z R s S → Q none M') : ∀ (t i : Nat) (M : fx_M) (x : List Int), i + t = (prd (msk S (jnC R s))).length → f158 M0 M → mz M 0 Z → mst' M Z S → mjt M (jnC R s) → (prd (msk S (jnC R s)))[i]? = some x → syJ M (jnC R s) x → psK M Z R s ((prd (msk S (jnC R s))).take i) → wp kc (d + 4) 297 35 [some (jR 133), some (jI r), some (jI q), some (jI 1), none] [] M Q := by
  have h9 := pz_n ho
  obtain ⟨hRo, hr12⟩ := rule_in ho hR
  obtain ⟨j1, j2, j3⟩ := jnC_ok ho hRo hs
  have hlm : (msk S (jnC R s)).length = (jnC R s).length := by simp [msk]
  intro t
  induction t with
  | zero =>
    intro i M x hi hf hz hm hj hx hsy hp
    have := (List.getElem?_eq_some_iff.mp hx).1
    omega
  | succ t ih =>
    intro i M x hi hf hz hm hj hx hsy hp
    obtain ⟨f, ef⟩ := row_fun j2 hsy.1
    have hfit : fit S (jnC R s) f := map_prd.mp (by rw [ef]; exact mem_at hx)
    have hf4 : ∀ c ∈ jnC R s, 0 ≤ f c ∧ f c < 4 := fun c hc => by
      have := sym4_mem.mp (hfit c hc)
      exact ⟨this.1, this.2.1⟩
    have h155 : ∀ c ∈ jnC R s, M 155 c = f c := fun c hc => by
      obtain ⟨k, hk, e⟩ := mem_getD hc
      rw [← e, hsy.2 k hk, ← ef, map_getD hk]
    -- on to the next row, this one counted
    have go : ∀ M', (∀ b j, b ≠ 158 → M' b j = M b j) → psK M' Z R s ((prd (msk S (jnC R s))).take (i + 1)) → wc kc (d + 3) 303 [jR 133, jI 0] M' (fun v M1 => wp kc (d + 4) 297 111 [some (jR 133), some (jI r), some (jI q), none, none] (v.toList ++ []) M1 Q) := fun M' hfr hp' => by
      have f1 : f158 M M' := fun b j _ _ h3 _ => hfr b j h3
      have z1 := mz_158 hz f1
      have m1 := mst_158 hm f1
      have e1 := mst_msk m1 j3
      have jm : mjt M' (jnC R s) := ⟨by rw [hfr 133 _ (by decide)]; exact hj.n, hj.l8, fun k hk => by rw [hfr 157 _ (by decide)]; exact hj.c k hk, hj.b, hj.nd⟩
      have sy1 : syJ M' (jnC R s) x := ⟨hsy.1, fun k hk => by rw [hfr 155 _ (by decide)]; exact hsy.2 k hk⟩
      refine sp_nextWay ⟨by omega, by omega⟩ jm (mst_mkb m1 hS j3) (i := i) (x := x) (by rw [e1]; exact hx) sy1 (fun M2 y hy f2 s2 => s297_111 ?_) (fun hl M2 f2 => s297_111 ?_)
      · rw [e1] at hy
        have f12 := f158_tr f1 (f158_of f2)
        refine ih (i + 1) M2 y (by omega) (f158_tr hf f12) (mz_158 hz f12) (mst_158 hm f12) (mjt_f155 jm f2) hy s2 (fun k hk => ?_)
        rw [f2 158 _ (by decide)]
        exact hp' k hk
      · rw [e1] at hl
        have f12 := f158_tr f1 (f158_of f2)
        refine s297_35 ⟨⟨by omega, by omega⟩, fun _ => K M2 (f158_tr hf f12) (mjt_f155 jm f2) (fun k hk => ?_), fun h => absurd rfl h⟩
        obtain ⟨m, a1, a2, a3⟩ := hp' k hk
        refine ⟨m, a1, by rw [f2 158 _ (by decide)]; exact a2, fun y hy => ?_⟩
        rw [a3 y hy, List.take_of_length_le (by omega)]
        constructor
        · rintro ⟨g, g1, g2⟩
          exact ⟨g, map_prd.mp g1, g2⟩
        · rintro ⟨g, g1, g2⟩
          exact ⟨g, map_prd.mpr g1, g2⟩
    -- a row that is not met
    have skip : ¬ okf Z R s f → wc kc (d + 3) 303 [jR 133, jI 0] M (fun v M1 => wp kc (d + 4) 297 111 [some (jR 133), some (jI r), some (jI q), none, none] (v.toList ++ []) M1 Q) := fun hn => go M (fun _ _ _ => rfl) (fun k hk => by
      obtain ⟨m, a1, a2, a3⟩ := hp k hk
      refine ⟨m, a1, a2, fun y hy => ?_⟩
      rw [a3 y hy, take_snocL hx]
      constructor
      · rintro ⟨g, g1, g2⟩
        exact ⟨g, List.mem_append_left _ g1, g2⟩
      · rintro ⟨g, g1, g2, g3⟩
        rcases List.mem_append.mp g1 with g1 | g1
        · exact ⟨g, g1, g2, g3⟩
        · exfalso
          have eg := List.mem_singleton.mp g1
          exact hn (okf_cg g2 (fun c hc => by
            obtain ⟨k, hk, e⟩ := mem_getD hc
            rw [← e, ← map_getD (f := g) hk, ← map_getD (f := f) hk, eg, ef])))
    -- a row that is met
    have add : okf Z R s f → wp kc (d + 4) 297 62 [some (jR 133), some (jI r), some (jI q), none, some (jI 0)] [] M Q := fun hok => by
      refine add_loop (M0 := M) hj hf4 h155 (fun k hk => by obtain ⟨m, a1, a2, -⟩ := hp k hk; exact ⟨m, a1, a2⟩) (fun M' hfr hd => go M' hfr (fun k hk => ?_)) (jnC R s).length 0 M (by omega) (fun _ _ _ => rfl) (fun k h => by omega) (fun _ _ => rfl)
      obtain ⟨m, a1, a2, a3⟩ := hp k hk
      have hck := hf4 _ (getD_mem hk)
      have ho1 := or_one ⟨m, a1⟩ ⟨(f ((jnC R s).getD k 0)).toNat, by omega⟩
      simp only at ho1
      refine ⟨m ||| 2 ^ (f ((jnC R s).getD k 0)).toNat, ho1.2, by rw [hd k hk, a2, Int.toNat_natCast], fun y hy => ?_⟩
      rw [Nat.testBit_or, Bool.or_eq_true, a3 y hy, pow_bit, decide_eq_true_iff, take_snocL hx]
      constructor
      · rintro (⟨g, g1, g2⟩ | e)
        · exact ⟨g, List.mem_append_left _ g1, g2⟩
        · exact ⟨f, List.mem_append_right _ (by rw [ef]; exact List.mem_singleton.mpr rfl), hok, by omega⟩
      · rintro ⟨g, g1, g2, g3⟩
        rcases List.mem_append.mp g1 with g1 | g1
        · exact Or.inl ⟨g, g1, g2, g3⟩
        · right
          have eg := List.mem_singleton.mp g1
          rw [← map_getD (f := g) hk, eg, ← ef, map_getD hk] at g3
          omega
    have hmx : ∀ T : PR, (∀ c ∈ T.2.2, c ∈ jnC R s) → mxs M T = T.2.2.map f := fun T hT => by
      unfold mxs
      exact List.map_congr_left (fun c hc => h155 c (hT c hc))
    have hv3 : ∀ T : PR, (∀ c ∈ T.2.2, c ∈ jnC R s) → ∀ c ∈ T.2.2, 0 ≤ M 155 c ∧ M 155 c ≤ 3 := fun T hT c hc => by
      rw [h155 c (hT c hc)]
      have := hf4 c (hT c hc)
      omega
    refine s297_35 ⟨⟨by omega, by omega⟩, fun h => by omega, fun _ => sp_mIsMet (mrl_of ho hz hR (hv3 R (fun c hc => jnC_mem1 hc))) (s297_44 ?_)⟩
    rw [hmx R (fun c hc => jnC_mem1 hc)]
    unfold bI
    by_cases hmt : met Z.1 R (R.2.2.map f) = true
    · rw [if_pos hmt]
      refine ⟨⟨by omega, by omega⟩, fun h => by omega, fun _ => ?_⟩
      rcases hs with ⟨h1, h2, h3⟩ | ⟨r2, R2, h1, h2, h3⟩
      · exact ⟨⟨by omega, by omega⟩, fun _ => add ⟨hmt, fun R2 h => by rw [h3] at h; cases h⟩, fun h => by omega⟩
      · subst h1 h2
        have hr2 := (rule_in ho h3).2
        refine ⟨⟨by omega, by omega⟩, fun h => by omega, fun _ => sp_mIsMet (mrl_of ho hz h3 (hv3 R2 (fun c hc => jnC_mem2 hc))) (s297_56 ?_)⟩
        rw [hmx R2 (fun c hc => jnC_mem2 hc)]
        by_cases hm2 : met Z.1 R2 (R2.2.2.map f) = true
        · unfold bI
          rw [if_pos hm2]
          exact ⟨⟨by omega, by omega⟩, fun h => by omega, fun _ => add ⟨hmt, fun T hT => by cases hT; exact hm2⟩⟩
        · unfold bI
          rw [if_neg hm2]
          exact ⟨⟨by omega, by omega⟩, fun _ => skip (fun h => hm2 (h.2 R2 rfl)), fun h => absurd rfl h⟩
    · rw [if_neg hmt]
      exact ⟨⟨by omega, by omega⟩, fun _ => skip (fun h => hmt h.1), fun h => absurd rfl h⟩
theorem sp_findPossible (ho : pz_ok Z) (hR : Z.2.2.2.1[r]? = some R) (hs : sec Z q s) (hS : ∀ c : Nat, (c : Int) < Z.1 * Z.2.1 → S c < 16) {M : fx_M} (hz : mz M 0 Z) (hm : mst' M Z S) (K : ∀ M', f158 M M' → mjt M' (jnC R s) → psS M' Z R s S → Q none M') : wc kc (d + 4) 297 [jR 133, jI r, jI q] M Q := by
  obtain ⟨hRo, hr12⟩ := rule_in ho hR
  obtain ⟨j1, j2, j3⟩ := jnC_ok ho hRo hs
  refine s297 (sp_join ho hR hs hz (fun M1 f1 jt1 => s297_6 ?_))
  refine zero_loopP (M0 := M1) jt1 (fun M2 h2 z2 => ?_) (jnC R s).length 0 M1 (by omega) (fun _ _ _ => rfl) (fun k h => by omega)
  have f2 : f158 M M2 := f158_tr f1 (fun b j _ _ h3 _ => h2 b j h3)
  have m2 := mst_158 hm f2
  have e2 := mst_msk m2 j3
  have jm : mjt M2 (jnC R s) := ⟨by rw [h2 133 _ (by decide)]; exact jt1.n, jt1.l8, fun k hk => by rw [h2 157 _ (by decide)]; exact jt1.c k hk, jt1.b, jt1.nd⟩
  refine sp_firstWay ⟨by omega, by omega⟩ jm (mst_mkb m2 hS j3) (fun M3 x hx f3 s3 => s297_34 ?_) (fun hn M3 f3 => s297_34 ?_)
  · rw [e2] at hx
    have f03 := f158_tr f2 (f158_of f3)
    have hl := (List.getElem?_eq_some_iff.mp hx).1
    refine fp_loop (M0 := M) ho hR hs hS K (prd (msk S (jnC R s))).length 0 M3 x (by omega) f03 (mz_158 hz f03) (mst_158 hm f03) (mjt_f155 jm f3) hx s3 (fun k hk => ⟨0, by omega, by rw [f3 158 _ (by decide)]; exact z2 k hk, fun y hy => ?_⟩)
    rw [Nat.zero_testBit]
    constructor
    · intro h
      cases h
    · rintro ⟨g, g1, -⟩
      simp at g1
  · rw [e2] at hn
    refine s297_35 ⟨⟨by omega, by omega⟩, fun _ => K M3 (f158_tr f2 (f158_of f3)) (mjt_f155 jm f3) (fun k hk => ⟨0, by omega, by rw [f3 158 _ (by decide)]; exact z2 k hk, fun y hy => ?_⟩), fun h => absurd rfl h⟩
    rw [Nat.zero_testBit]
    constructor
    · intro h
      cases h
    · rintro ⟨g, g1, -⟩
      have := map_prd.mpr g1
      rw [hn] at this
      cases this
end PSC
