/-! The reference's lines: whole ones, those by rules. -/
section MCJ
variable {kc : List va_E} {d : Nat} {Q : Option fx_V → fx_M → Prop} {Z : PZ} {A : List LN}
theorem take1 {q : List LT} {i : Nat} {z : LT} (h : q[i]? = some z) : q.take (i + 1) = q.take i ++ [z] := by
  obtain ⟨hi, e⟩ := List.getElem?_eq_some_iff.mp h
  rw [List.take_succ_eq_append_getElem hi, e]
theorem lts_take {q : List LT} (h : lts q) {i : Nat} : lts (q.take i) := fun x hx => h x (List.mem_of_mem_take hx)
theorem iw_in (ho : pz_ok Z) {M : fx_M} (h : mls Z M A) (hr : rooA A) {k : Nat} {x : LN} (hx : A[k]? = some x) (hl : lts x.2.2.2) {i : Nat} {z : LT} (hz : x.2.2.2[i]? = some z) (hlz : lin Z z) (hgi : ¬ flw Z (x.2.2.2.take i)) (K0 : flw Z (x.2.2.2.take (i + 1)) → Q (some (jI 0)) M) (K1 : ¬ flw Z (x.2.2.2.take (i + 1)) → wp kc (d + 2) 393 2 [some (jR 133), some (jI k), some (jI ((i : Int) + 1)), none] [] M Q) : ∀ (t j : Nat), j + t = i → (∀ (j' : Nat) (w : LT), j' < j → x.2.2.2[j']? = some w → ltn w ≠ ltn z) → wp kc (d + 2) 393 24 [some (jR 133), some (jI k), some (jI i), some (jI j)] [] M Q := by
  have hk := (List.getElem?_eq_some_iff.mp hx).1
  have hi := (List.getElem?_eq_some_iff.mp hz).1
  have hoe := off_end hx
  have hzb := hl z (List.mem_of_getElem? hz)
  intro t
  induction t with
  | zero =>
    intro j hj hn
    refine s393_24 ⟨⟨⟨by omega, by omega⟩, ⟨by omega, by omega⟩⟩, fun _ => K1 (fun hf => ?_), fun h => by omega⟩
    rw [take1 hz] at hf
    rcases flw_app.mp hf with hf | hf | hf
    · exact hgi hf
    · exact hf hlz
    · obtain ⟨w, hw, e⟩ := List.mem_map.mp hf
      obtain ⟨j', hj', ew⟩ := List.mem_iff_getElem.mp hw
      rw [List.length_take] at hj'
      rw [List.getElem_take] at ew
      exact hn j' w (by omega) (by rw [List.getElem?_eq_getElem (by omega), ew]) e
  | succ t ih =>
    intro j hj hn
    have hjl : j < x.2.2.2.length := by omega
    have hw := List.getElem?_eq_getElem hjl
    have hwb := hl _ (List.getElem_mem hjl)
    have hlw : lin Z x.2.2.2[j] := Classical.byContradiction (fun hnl => hgi (Or.inl ⟨x.2.2.2[j], List.mem_iff_getElem.mpr ⟨j, by rw [List.length_take]; omega, List.getElem_take⟩, hnl⟩))
    have bz := lcd_b ho hzb
    have bw := lcd_b ho hwb
    refine s393_24 ⟨⟨⟨by omega, by omega⟩, ⟨by omega, by omega⟩⟩, fun h => by omega, fun _ => sp_litAt (d := d) h hr hx hz (s393_35 (sp_litAt (d := d) h hr hx hw (s393_41 ⟨⟨⟨by omega, by omega⟩, ⟨by omega, by omega⟩⟩, fun hne => ?_, fun he => K0 ?_⟩)))⟩
    · have nx := ih (j + 1) (by omega) (fun j' w hj' hw' => by
        by_cases e : j' = j
        · subst e
          rw [hw] at hw'
          cases hw'
          intro e2
          exact hne ((lcd_ltn ho ⟨hzb.1, hzb.2.2.1⟩ ⟨hwb.1, hwb.2.2.1⟩ hlz hlw).mpr e2.symm)
        · exact hn j' w (by omega) hw')
      rw [show ((j + 1 : Nat) : Int) = (j : Int) + 1 by omega] at nx
      exact nx
    · rw [take1 hz]
      refine flw_app.mpr (Or.inr (Or.inr ?_))
      rw [(lcd_ltn ho ⟨hzb.1, hzb.2.2.1⟩ ⟨hwb.1, hwb.2.2.1⟩ hlz hlw).mp he]
      exact List.mem_map.mpr ⟨_, List.mem_iff_getElem.mpr ⟨j, by rw [List.length_take]; omega, List.getElem_take⟩, rfl⟩
theorem sp_isWhole (ho : pz_ok Z) {M : fx_M} (h : mls Z M A) (hr : rooA A) {k : Nat} {x : LN} (hx : A[k]? = some x) (hl : lts x.2.2.2) (K0 : flw Z x.2.2.2 → Q (some (jI 0)) M) (K1 : ¬ flw Z x.2.2.2 → Q (some (jI 1)) M) : wc kc (d + 2) 393 [jR 133, jI k] M Q := by
  have hk := (List.getElem?_eq_some_iff.mp hx).1
  have hoe := off_end hx
  have mono : ∀ i, flw Z (x.2.2.2.take i) → flw Z x.2.2.2 := fun i hf => by
    rcases hf with ⟨y, h1, h2⟩ | hf
    · exact Or.inl ⟨y, List.mem_of_mem_take h1, h2⟩
    · refine Or.inr (fun hn => hf ?_)
      rw [List.map_take]
      exact List.Nodup.sublist (List.take_sublist _ _) hn
  have z : ∀ (t i : Nat), i + t = x.2.2.2.length → ¬ flw Z (x.2.2.2.take i) → wp kc (d + 2) 393 2 [some (jR 133), some (jI k), some (jI i), none] [] M Q := by
    intro t
    induction t with
    | zero =>
      intro i hi hg
      rw [List.take_of_length_le (by omega)] at hg
      exact s393_2 (sp_lits (d := d) h hr hx (s393_8 ⟨⟨⟨by omega, by omega⟩, ⟨by omega, by omega⟩⟩, fun _ => K1 hg, fun h => by omega⟩))
    | succ t ih =>
      intro i hi hg
      have hil : i < x.2.2.2.length := by omega
      have hz := List.getElem?_eq_getElem hil
      have hzb := hl _ (List.getElem_mem hil)
      have bz := lcd_b ho hzb
      refine s393_2 (sp_lits (d := d) h hr hx (s393_8 ⟨⟨⟨by omega, by omega⟩, ⟨by omega, by omega⟩⟩, fun h => by omega, fun _ => sp_litAt (d := d) h hr hx hz (s393_17 ⟨⟨by omega, by omega⟩, fun h0 => ?_, fun h0 => K0 ?_⟩)⟩))
      · refine iw_in ho h hr hx hl hz (bz.2.2.mp h0) hg (fun hf => K0 (mono _ hf)) (fun hf => ?_) i 0 (by omega) (fun j' w hj' => by omega)
        have nx := ih (i + 1) (by omega) hf
        rw [show ((i + 1 : Nat) : Int) = (i : Int) + 1 by omega] at nx
        exact nx
      · exact Or.inl ⟨_, List.getElem_mem hil, fun hlz => by have := bz.2.2.mpr hlz; omega⟩
  exact s393 (z x.2.2.2.length 0 (by omega) (by rw [List.take_zero]; exact flw_nil))
/-- hasLiteral -/
theorem sp_hasLit (ho : pz_ok Z) {M : fx_M} (h : mls Z M A) (hr : rooA A) {k : Nat} {x : LN} (hx : A[k]? = some x) (hl : lts x.2.2.2) {l : Int} (hl32 : fx_in32 l) (K1 : (∃ z ∈ x.2.2.2, lcd Z z = l) → Q (some (jI 1)) M) (K0 : (¬ ∃ z ∈ x.2.2.2, lcd Z z = l) → Q (some (jI 0)) M) : wc kc (d + 2) 396 [jR 133, jI k, jI l] M Q := by
  have hk := (List.getElem?_eq_some_iff.mp hx).1
  have hoe := off_end hx
  have z : ∀ (t i : Nat), i + t = x.2.2.2.length → (∀ (j : Nat) (w : LT), j < i → x.2.2.2[j]? = some w → lcd Z w ≠ l) → wp kc (d + 2) 396 2 [some (jR 133), some (jI k), some (jI l), some (jI i)] [] M Q := by
    intro t
    induction t with
    | zero =>
      intro i hi hn
      refine s396_2 (sp_lits (d := d) h hr hx (s396_8 ⟨⟨⟨by omega, by omega⟩, ⟨by omega, by omega⟩⟩, fun _ => K0 ?_, fun h => by omega⟩))
      rintro ⟨w, hw, e⟩
      obtain ⟨j, hj, ew⟩ := List.mem_iff_getElem.mp hw
      exact hn j w (by omega) (by rw [List.getElem?_eq_getElem hj, ew]) e
    | succ t ih =>
      intro i hi hn
      have hil : i < x.2.2.2.length := by omega
      have hz := List.getElem?_eq_getElem hil
      have bz := lcd_b ho (hl _ (List.getElem_mem hil))
      refine s396_2 (sp_lits (d := d) h hr hx (s396_8 ⟨⟨⟨by omega, by omega⟩, ⟨by omega, by omega⟩⟩, fun h => by omega, fun _ => sp_litAt (d := d) h hr hx hz (s396_17 ⟨⟨⟨by omega, by omega⟩, hl32⟩, fun hne => ?_, fun he => K1 ⟨_, List.getElem_mem hil, he⟩⟩)⟩))
      have nx := ih (i + 1) (by omega) (fun j w hj hw => by
        by_cases e : j = i
        · subst e
          rw [hz] at hw
          cases hw
          exact hne
        · exact hn j w (by omega) hw)
      rw [show ((i + 1 : Nat) : Int) = (i : Int) + 1 by omega] at nx
      exact nx
  exact s396 (z x.2.2.2.length 0 (by omega) (fun j w hj => by omega))
theorem sp_litC (ho : pz_ok Z) {M : fx_M} {z : LT} (hz : 0 ≤ z.2.1 ∧ 0 ≤ z.2.2) (hl : lin Z z) (K : Q (some (jI z.2.1)) M) : wc kc (d + 1) 399 [jI (lcd Z z)] M Q := by
  obtain ⟨_, a2, _, _, a5, a6⟩ := lcd_eq ho hz hl
  refine s399 ⟨⟨by omega, by omega⟩, ?_⟩
  rw [a2]
  exact K
theorem sp_litS (ho : pz_ok Z) {M : fx_M} {z : LT} (hz : 0 ≤ z.2.1 ∧ 0 ≤ z.2.2) (hl : lin Z z) (K : Q (some (jI z.2.2)) M) : wc kc (d + 1) 400 [jI (lcd Z z)] M Q := by
  obtain ⟨_, _, a3, _, a5, a6⟩ := lcd_eq ho hz hl
  refine s400 ⟨⟨by omega, by omega⟩, ⟨by omega, by omega⟩, ?_⟩
  rw [a3]
  exact K
theorem sp_litP (ho : pz_ok Z) {M : fx_M} {z : LT} (hz : 0 ≤ z.2.1 ∧ 0 ≤ z.2.2) (hl : lin Z z) (K : Q (some (jI (if z.1 = 0 then 1 else 0))) M) : wc kc (d + 1) 401 [jI (lcd Z z)] M Q := by
  obtain ⟨_, _, _, a4, a5, a6⟩ := lcd_eq ho hz hl
  refine s401 ?_
  by_cases h0 : z.1 = 0
  · rw [if_pos (a4.mpr h0)]
    rw [if_pos h0] at K
    exact ⟨⟨by omega, by omega⟩, ⟨by omega, by omega⟩, ⟨by omega, by omega⟩, K⟩
  · rw [if_neg (fun h => h0 (a4.mp h))]
    rw [if_neg h0] at K
    exact ⟨⟨by omega, by omega⟩, ⟨by omega, by omega⟩, ⟨by omega, by omega⟩, K⟩
/-- isSoByWay -/
theorem sp_soByWay (ho : pz_ok Z) {M : fx_M} (h : mls Z M A) (hr : rooA A) {k : Nat} {x : LN} (hx : A[k]? = some x) (hg : ltg Z x.2.2.2) {J : List Int} (hj : mjt M J) {f : Int → Int} (hf : ∀ c ∈ J, M 155 c = f c) (hf4 : ∀ c ∈ J, 0 ≤ f c ∧ f c < 4) (K1 : soW x.2.2.2 J f → Q (some (jI 1)) M) (K0 : ¬ soW x.2.2.2 J f → Q (some (jI 0)) M) : wc kc (d + 2) 398 [jR 133, jI k] M Q := by
  have hk := (List.getElem?_eq_some_iff.mp hx).1
  have hoe := off_end hx
  have z : ∀ (t i : Nat), i + t = x.2.2.2.length → (∀ (j : Nat) (w : LT), j < i → x.2.2.2[j]? = some w → ¬ (w.2.1 ∈ J ∧ ((f w.2.1 = w.2.2) ↔ w.1 = 0))) → wp kc (d + 2) 398 2 [some (jR 133), some (jI k), some (jI i), none] [] M Q := by
    intro t
    induction t with
    | zero =>
      intro i hi hn
      refine s398_2 (sp_lits (d := d) h hr hx (s398_8 ⟨⟨⟨by omega, by omega⟩, ⟨by omega, by omega⟩⟩, fun _ => K0 ?_, fun h => by omega⟩))
      rintro ⟨w, hw, e1, e2⟩
      obtain ⟨j, hj2, ew⟩ := List.mem_iff_getElem.mp hw
      exact hn j w (by omega) (by rw [List.getElem?_eq_getElem hj2, ew]) ⟨e1, e2⟩
    | succ t ih =>
      intro i hi hn
      have hil : i < x.2.2.2.length := by omega
      have hz := List.getElem?_eq_getElem hil
      have hzm := List.getElem_mem hil
      obtain ⟨b1, b2, b3, b4, b5, b6, b7⟩ := lt_b ho hg hzm
      have hlz := ltg_lin hg _ hzm
      have hb := hg.1 _ hzm
      have go : ¬ (x.2.2.2[i].2.1 ∈ J ∧ ((f x.2.2.2[i].2.1 = x.2.2.2[i].2.2) ↔ x.2.2.2[i].1 = 0)) → wp kc (d + 2) 398 2 [some (jR 133), some (jI k), some (jI ((i : Int) + 1)), none] [] M Q := fun hnn => by
        have nx := ih (i + 1) (by omega) (fun j w hj2 hw => by
          by_cases e : j = i
          · subst e
            rw [hz] at hw
            cases hw
            exact hnn
          · exact hn j w (by omega) hw)
        rw [show ((i + 1 : Nat) : Int) = (i : Int) + 1 by omega] at nx
        exact nx
      refine s398_2 (sp_lits (d := d) h hr hx (s398_8 ⟨⟨⟨by omega, by omega⟩, ⟨by omega, by omega⟩⟩, fun h => by omega, fun _ => sp_litAt (d := d) h hr hx hz (s398_17 (sp_litC (d := d) ho ⟨hb.1, hb.2.2.1⟩ hlz (s398_23 (s299 (ij_loop (d := d) (Q := fun v M1 => wp kc (d + 2) 398 26 [some (jR 133), some (jI k), some (jI i), some (jI (lcd Z x.2.2.2[i]))] (v.toList ++ []) M1 Q) hj.n hj.l8 (fun n hn2 => ⟨hj.c n hn2, hj.b n hn2⟩) (c := x.2.2.2[i].2.1) ⟨by omega, by omega⟩ ?_ J.length 0 false (by omega) (by simp))))))⟩))
      refine s398_26 ?_
      by_cases hin : x.2.2.2[i].2.1 ∈ J
      · rw [decide_eq_true hin]
        show fx_in32 1 ∧ ((1 : Int) = 0 → _) ∧ ((1 : Int) ≠ 0 → _)
        refine ⟨⟨by omega, by omega⟩, fun h => by omega, fun _ => sp_litC (d := d) ho ⟨hb.1, hb.2.2.1⟩ hlz (s398_37 ⟨⟨by omega, by omega⟩, sp_litS (d := d) ho ⟨hb.1, hb.2.2.1⟩ hlz (s398_42 ?_)⟩)⟩
        rw [hf _ hin]
        have h4 := hf4 _ hin
        refine ⟨⟨by omega, by omega⟩, ⟨by omega, by omega⟩, sp_litP (d := d) ho ⟨hb.1, hb.2.2.1⟩ hlz (s398_54 ?_)⟩
        by_cases e1 : f x.2.2.2[i].2.1 = x.2.2.2[i].2.2
        · rw [if_pos e1]
          by_cases e2 : x.2.2.2[i].1 = 0
          · rw [if_pos e2]
            exact ⟨⟨⟨by omega, by omega⟩, ⟨by omega, by omega⟩⟩, fun h => absurd rfl h, fun _ => K1 ⟨_, hzm, hin, ⟨fun _ => e2, fun _ => e1⟩⟩⟩
          · rw [if_neg e2]
            exact ⟨⟨⟨by omega, by omega⟩, ⟨by omega, by omega⟩⟩, fun _ => go (fun hc => e2 (hc.2.mp e1)), fun h => by omega⟩
        · rw [if_neg e1]
          by_cases e2 : x.2.2.2[i].1 = 0
          · rw [if_pos e2]
            exact ⟨⟨⟨by omega, by omega⟩, ⟨by omega, by omega⟩⟩, fun _ => go (fun hc => e1 (hc.2.mpr e2)), fun h => by omega⟩
          · rw [if_neg e2]
            exact ⟨⟨⟨by omega, by omega⟩, ⟨by omega, by omega⟩⟩, fun h => absurd rfl h, fun _ => K1 ⟨_, hzm, hin, ⟨fun h => absurd h e1, fun h => absurd h e2⟩⟩⟩
      · rw [decide_eq_false hin]
        show fx_in32 0 ∧ ((0 : Int) = 0 → _) ∧ ((0 : Int) ≠ 0 → _)
        exact ⟨⟨by omega, by omega⟩, fun _ => go (fun hc => hin hc.1), fun h => absurd rfl h⟩
  exact s398 (z x.2.2.2.length 0 (by omega) (fun j w hj => by omega))
theorem mls_158 {M N : fx_M} (h : mls Z M A) (f : f158 M N) : mls Z N A := mls_fr h (f _ _ (by decide) (by decide) (by decide) (by omega)) (fun b j h1 h2 => f b j (by omega) (by omega) (by omega) (by omega))
theorem mkm_full (ho : pz_ok Z) {M : fx_M} (hz : mz M 0 Z) {J : List Int} (hJ : ∀ c ∈ J, 0 ≤ c ∧ c < Z.1 * Z.2.1) : mkm M 1 J = msk (s_free Z) J ∧ mkb M 1 J := by
  have h4 := ho.2.2.2.2.2.1
  have h1 := ho.2.2.2.2.1
  have hp := Nat.one_le_two_pow (n := Z.2.2.1.toNat)
  have hle := Nat.pow_le_pow_right (n := 2) (by decide) (show Z.2.2.1.toNat ≤ 4 by omega)
  have e : fx_shl 1 (M 148 0) - 1 = ((2 ^ Z.2.2.1.toNat - 1 : Nat) : Int) := by
    rw [hz.2.2.1, fx_shl_1 ⟨by omega, by omega⟩]
    generalize 2 ^ Z.2.2.1.toNat = p at hp
    omega
  refine ⟨?_, fun i hi => ⟨fun h => by omega, fun _ => ?_⟩⟩
  · unfold mkm msk
    refine List.map_congr_left (fun c hc => ?_)
    have := hJ c hc
    rw [if_neg (by decide), e, Int.toNat_natCast]
    unfold s_free
    rw [if_pos (by omega)]
  · rw [e]
    generalize 2 ^ Z.2.2.1.toNat = p at hp hle
    omega
/-- isByRules -/
theorem br_lp (ho : pz_ok Z) {k : Nat} {x : LN} (hx : A[k]? = some x) (hg : ltg Z x.2.2.2) (hr : rooA A) {r : Nat} {R : PR} {s : Option PR} {q : Int} (hR : Z.2.2.2.1[r]? = some R) (hs : sec Z q s) {M0 : fx_M} (K1 : noW Z x.2.2.2 R s → ∀ M', f158 M0 M' → Q (some (jI 1)) M') (K0 : ¬ noW Z x.2.2.2 R s → ∀ M', f158 M0 M' → Q (some (jI 0)) M') : ∀ (t i : Nat) (M : fx_M) (y : List Int), i + t = (prd (msk (s_free Z) (jnC R s))).length → f158 M0 M → mz M 0 Z → mls Z M A → mjt M (jnC R s) → (prd (msk (s_free Z) (jnC R s)))[i]? = some y → syJ M (jnC R s) y → (∀ g, (jnC R s).map g ∈ (prd (msk (s_free Z) (jnC R s))).take i → okf Z R s g → soW x.2.2.2 (jnC R s) g) → wp kc (d + 4) 397 46 [some (jR 133), some (jI k), some (jI r), some (jI q), some (jI 1)] [] M Q := by
  obtain ⟨hRo, hr12⟩ := rule_in ho hR
  obtain ⟨j1, j2, j3⟩ := jnC_ok ho hRo hs
  intro t
  induction t with
  | zero =>
    intro i M y hi hf hz hm hj hy
    have := (List.getElem?_eq_some_iff.mp hy).1
    omega
  | succ t ih =>
    intro i M y hi hf hz hm hj hy hsy hall
    obtain ⟨f, ef⟩ := row_fun j2 hsy.1
    have hfit : fit (s_free Z) (jnC R s) f := map_prd.mp (by rw [ef]; exact mem_at hy)
    have hf4 : ∀ c ∈ jnC R s, 0 ≤ f c ∧ f c < 4 := fun c hc => by
      have := sym4_mem.mp (hfit c hc)
      exact ⟨this.1, this.2.1⟩
    have h155 : ∀ c ∈ jnC R s, M 155 c = f c := fun c hc => by
      obtain ⟨n, hn, e⟩ := mem_getD hc
      rw [← e, hsy.2 n hn, ← ef, map_getD hn]
    have mk := mkm_full ho hz j3
    -- on to the next way
    have go : (okf Z R s f → soW x.2.2.2 (jnC R s) f) → wc kc (d + 3) 303 [jR 133, jI 1] M (fun v M1 => wp kc (d + 4) 397 86 [some (jR 133), some (jI k), some (jI r), some (jI q), none] (v.toList ++ []) M1 Q) := fun hok => by
      have hall' : ∀ g, (jnC R s).map g ∈ (prd (msk (s_free Z) (jnC R s))).take (i + 1) → okf Z R s g → soW x.2.2.2 (jnC R s) g := fun g hg1 hg2 => by
        rw [take_snocL hy] at hg1
        rcases List.mem_append.mp hg1 with h1 | h1
        · exact hall g h1 hg2
        · have eg := List.mem_singleton.mp h1
          have efg : ∀ c ∈ jnC R s, g c = f c := fun c hc => by
            obtain ⟨n, hn, e⟩ := mem_getD hc
            rw [← e, ← map_getD (f := g) hn, ← map_getD (f := f) hn, eg, ef]
          obtain ⟨w, w1, w2, w3⟩ := hok (okf_cg hg2 (fun c hc => efg c hc))
          exact ⟨w, w1, w2, by rw [efg _ w2]; exact w3⟩
      refine sp_nextWay ⟨by omega, by omega⟩ hj mk.2 (i := i) (x := y) (by rw [mk.1]; exact hy) hsy (fun M2 y2 hy2 f2 s2 => s397_86 ?_) (fun hl M2 f2 => s397_86 ?_)
      · rw [mk.1] at hy2
        have f12 := f158_of f2
        exact ih (i + 1) M2 y2 (by omega) (f158_tr hf f12) (mz_158 hz f12) (mls_158 hm f12) (mjt_f155 hj f2) hy2 s2 hall'
      · rw [mk.1] at hl
        refine s397_46 ⟨⟨by omega, by omega⟩, fun _ => K1 ?_ M2 (f158_tr hf (f158_of f2)), fun h => absurd rfl h⟩
        rintro ⟨g, g1, g2⟩
        have g3 := (fit_dn ho hg j3).mp g1
        refine g3.2 (hall' g ?_ g2)
        rw [List.take_of_length_le (by omega)]
        exact map_prd.mpr g3.1
    have hmx : ∀ T : PR, (∀ c ∈ T.2.2, c ∈ jnC R s) → mxs M T = T.2.2.map f := fun T hT => by
      unfold mxs
      exact List.map_congr_left (fun c hc => h155 c (hT c hc))
    have hv3 : ∀ T : PR, (∀ c ∈ T.2.2, c ∈ jnC R s) → ∀ c ∈ T.2.2, 0 ≤ M 155 c ∧ M 155 c ≤ 3 := fun T hT c hc => by
      rw [h155 c (hT c hc)]
      have := hf4 c (hT c hc)
      omega
    -- a way that meets the rules
    have met2 : okf Z R s f → wc kc (d + 3) 398 [jR 133, jI k] M (fun v M1 => wp kc (d + 4) 397 76 [some (jR 133), some (jI k), some (jI r), some (jI q), none] (v.toList ++ []) M1 Q) := fun hok => by
      refine sp_soByWay (d := d + 1) ho hm hr hx hg hj h155 hf4 (fun hso => s397_76 ⟨⟨by omega, by omega⟩, fun _ => go (fun _ => hso), fun h => by omega⟩) (fun hso => s397_76 ⟨⟨by omega, by omega⟩, fun h => absurd rfl h, fun _ => K0 (fun hn => hn ⟨f, (fit_dn ho hg j3).mpr ⟨hfit, hso⟩, hok⟩) M hf⟩)
    refine s397_46 ⟨⟨by omega, by omega⟩, fun h => by omega, fun _ => sp_mIsMet (d := d) (mrl_of ho hz hR (hv3 R (fun c hc => jnC_mem1 hc))) (s397_56 ?_)⟩
    rw [hmx R (fun c hc => jnC_mem1 hc)]
    unfold bI
    by_cases hmt : met Z.1 R (R.2.2.map f) = true
    · rw [if_pos hmt]
      refine ⟨⟨by omega, by omega⟩, fun h => by omega, fun _ => ?_⟩
      rcases hs with ⟨h1, h2, h3⟩ | ⟨r2, R2, h1, h2, h3⟩
      · exact ⟨⟨by omega, by omega⟩, fun _ => met2 ⟨hmt, fun R2 h => by rw [h3] at h; cases h⟩, fun h => by omega⟩
      · subst h1 h2
        have hr2 := (rule_in ho h3).2
        refine ⟨⟨by omega, by omega⟩, fun h => by omega, fun _ => sp_mIsMet (d := d) (mrl_of ho hz h3 (hv3 R2 (fun c hc => jnC_mem2 hc))) (s397_68 ?_)⟩
        rw [hmx R2 (fun c hc => jnC_mem2 hc)]
        unfold bI
        by_cases hm2 : met Z.1 R2 (R2.2.2.map f) = true
        · rw [if_pos hm2]
          exact ⟨⟨by omega, by omega⟩, fun h => by omega, fun _ => met2 ⟨hmt, fun T hT => by cases hT; exact hm2⟩⟩
        · rw [if_neg hm2]
          exact ⟨⟨by omega, by omega⟩, fun _ => go (fun h => absurd (h.2 R2 rfl) hm2), fun h => absurd rfl h⟩
    · rw [if_neg hmt]
      exact ⟨⟨by omega, by omega⟩, fun _ => go (fun h => absurd h.1 hmt), fun h => absurd rfl h⟩
theorem sp_mByRules (ho : pz_ok Z) {M : fx_M} (hz : mz M 0 Z) (hm : mls Z M A) (hr : rooA A) {k : Nat} {x : LN} (hx : A[k]? = some x) (hg : ltg Z x.2.2.2) {r : Nat} {R : PR} {s : Option PR} {q : Int} (hR : Z.2.2.2.1[r]? = some R) (hs : sec Z q s) (K1 : (jnC R s).length ≤ 6 → noW Z x.2.2.2 R s → ∀ M', f158 M M' → Q (some (jI 1)) M') (K0 : ¬ ((jnC R s).length ≤ 6 ∧ noW Z x.2.2.2 R s) → ∀ M', f158 M M' → Q (some (jI 0)) M') : wc kc (d + 4) 397 [jR 133, jI k, jI r, jI q] M Q := by
  obtain ⟨hRo, hr12⟩ := rule_in ho hR
  obtain ⟨j1, j2, j3⟩ := jnC_ok ho hRo hs
  have h12 := ho.2.2.2.2.2.2.1
  have hrl := (List.getElem?_eq_some_iff.mp hR).1
  have hq : -1 ≤ q ∧ q < Z.2.2.2.1.length := by
    rcases hs with ⟨h1, h2, h3⟩ | ⟨r2, R2, h1, h2, h3⟩
    · omega
    · have := (List.getElem?_eq_some_iff.mp h3).1
      omega
  refine s397 ?_
  rw [hz.2.2.2.1]
  refine ⟨⟨⟨by omega, by omega⟩, ⟨by omega, by omega⟩⟩, fun h => by omega, fun _ => ⟨⟨⟨by omega, by omega⟩, ⟨by omega, by omega⟩⟩, fun _ => sp_join (d := d + 1) ho hR hs hz (fun M1 f1 m1 => s397_28 ?_), fun h => by omega⟩⟩
  have hz1 := mz_158 hz f1
  have mk := mkm_full ho hz1 j3
  rw [m1.n]
  refine ⟨⟨by omega, by omega⟩, fun h6 => sp_firstWay (d := d) ⟨by omega, by omega⟩ m1 mk.2 (fun M2 y hy f2 s2 => s397_44 ?_) (fun h0 M2 f2 => s397_44 ?_), fun h6 => K0 (fun h => by have := h.1; omega) M1 f1⟩
  · rw [mk.1] at hy
    have f12 := f158_tr f1 (f158_of f2)
    exact br_lp ho hx hg hr hR hs (M0 := M) (fun hn M' f => K1 (by omega) hn M' f) (fun hn M' f => K0 (fun h => hn h.2) M' f) _ 0 M2 y (Nat.zero_add _) f12 (mz_158 hz f12) (mls_158 hm f12) (mjt_f155 m1 f2) hy s2 (fun g hg1 => by simp at hg1)
  · rw [mk.1] at h0
    refine s397_46 ⟨⟨by omega, by omega⟩, fun _ => K1 (by omega) ?_ M2 (f158_tr f1 (f158_of f2)), fun h => absurd rfl h⟩
    rintro ⟨g, g1, _⟩
    have g3 := (fit_dn ho hg j3).mp g1
    have := map_prd.mpr g3.1
    rw [h0] at this
    cases this
end MCJ
