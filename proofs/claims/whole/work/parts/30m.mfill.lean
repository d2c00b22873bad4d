/-! The reference's lines of answers. -/
theorem nd_at {q : List LT} (h : (q.map ltn).Nodup) {i j : Nat} {z w : LT} (hz : q[i]? = some z) (hw : q[j]? = some w) (hij : i < j) : ltn z ≠ ltn w := by
  obtain ⟨hi, ez⟩ := List.getElem?_eq_some_iff.mp hz
  obtain ⟨hj, ew⟩ := List.getElem?_eq_some_iff.mp hw
  have := List.pairwise_iff_getElem.mp h i j (by rw [List.length_map]; exact hi) (by rw [List.length_map]; exact hj) hij
  rw [List.getElem_map, List.getElem_map, ez, ew] at this
  exact this
/-- a line of an answer: each cell once -/
theorem fi_sym {Z : PZ} (ho : pz_ok Z) {q : List LT} (hg : ltg Z q) (hm : ∀ z ∈ q, z.1 ≠ 0) {y : List Int} (hl : y.length = (Z.1 * Z.2.1).toNat) (hy : ∀ c : Nat, c < y.length → 0 ≤ y.getD c 0 ∧ y.getD c 0 < Z.2.2.1 ∧ ltM Z false q c = 2 ^ (y.getD c 0).toNat) {z : LT} (hz : z ∈ q) : z.2.2 = y.getD z.2.1.toNat 0 := by
  obtain ⟨b1, b2, b3, b4, b5, b6, b7⟩ := lt_b ho hg hz
  have a := hy z.2.1.toNat (by omega)
  have hb : (ltM Z false q z.2.1.toNat).testBit z.2.2.toNat = true := ltM_bit.mpr ⟨z, hz, decide_eq_false (hm z hz), ltg_lin hg z hz, b3.symm, rfl⟩
  rw [a.2.2, pow_bit, decide_eq_true_eq] at hb
  omega
theorem fi_inj {Z : PZ} (ho : pz_ok Z) {q : List LT} (hg : ltg Z q) (hm : ∀ z ∈ q, z.1 ≠ 0) {y : List Int} (hl : y.length = (Z.1 * Z.2.1).toNat) (hy : ∀ c : Nat, c < y.length → 0 ≤ y.getD c 0 ∧ y.getD c 0 < Z.2.2.1 ∧ ltM Z false q c = 2 ^ (y.getD c 0).toNat) {i j : Nat} {z w : LT} (hz : q[i]? = some z) (hw : q[j]? = some w) (hij : i < j) : z.2.1 ≠ w.2.1 := fun e => by
  have hzm := List.mem_of_getElem? hz
  have hwm := List.mem_of_getElem? hw
  refine nd_at (ltg_nd hg) hz hw hij ?_
  have s1 := fi_sym ho hg hm hl hy hzm
  have s2 := fi_sym ho hg hm hl hy hwm
  unfold ltn
  rw [if_neg (hm z hzm), if_neg (hm w hwm)]
  have e2 : z.2 = w.2 := Prod.ext e (by rw [s1, s2, e])
  rw [e2]
theorem fi_len {Z : PZ} (ho : pz_ok Z) {q : List LT} (hg : ltg Z q) (hm : ∀ z ∈ q, z.1 ≠ 0) {y : List Int} (hl : y.length = (Z.1 * Z.2.1).toNat) (hy : ∀ c : Nat, c < y.length → 0 ≤ y.getD c 0 ∧ y.getD c 0 < Z.2.2.1 ∧ ltM Z false q c = 2 ^ (y.getD c 0).toNat) : q.length = (Z.1 * Z.2.1).toNat := by
  have nd : (q.map fun z => z.2.1.toNat).Nodup := by
    refine List.pairwise_iff_getElem.mpr (fun i j hi hj hij => ?_)
    rw [List.length_map] at hi hj
    rw [List.getElem_map, List.getElem_map]
    intro e
    have b1 := (hg.1 _ (List.getElem_mem hi)).1
    have b2 := (hg.1 _ (List.getElem_mem hj)).1
    exact fi_inj ho hg hm hl hy (List.getElem?_eq_getElem hi) (List.getElem?_eq_getElem hj) hij (by omega)
  have h1 := sub_len nd (m := List.range (Z.1 * Z.2.1).toNat) (fun c hc => by
    obtain ⟨z, hz, rfl⟩ := List.mem_map.mp hc
    obtain ⟨b1, b2, b3, b4, b5, b6, b7⟩ := lt_b ho hg hz
    exact List.mem_range.mpr (by omega))
  have h2 := sub_len (l := List.range (Z.1 * Z.2.1).toNat) List.nodup_range (m := q.map fun z => z.2.1.toNat) (fun c hc => by
    have hcl := List.mem_range.mp hc
    have a := hy c (by omega)
    have hb : (ltM Z false q c).testBit (y.getD c 0).toNat = true := by
      rw [a.2.2, pow_bit]
      exact decide_eq_true rfl
    obtain ⟨z, hz, _, _, e, _⟩ := ltM_bit.mp hb
    exact List.mem_map.mpr ⟨z, hz, by omega⟩)
  rw [List.length_map, List.length_range] at h1 h2
  omega
section MFI
variable {kc : List va_E} {d : Nat} {Q : Option fx_V → fx_M → Prop} {Z : PZ} {A : List LN}
theorem mls_155 {M N : fx_M} (h : mls Z M A) (f : f155 M N) : mls Z N A := mls_158 h (f158_of f)
/-- symbols entered by literals -/
def ent (q : List LT) (i : Nat) (M : fx_M) : Prop := ∀ c : Nat, c < 9 → (∃ (j : Nat) (w : LT), j < i ∧ q[j]? = some w ∧ w.2.1 = (c : Int) ∧ M 155 (c : Int) = w.2.2) ∨ ((∀ (j : Nat) (w : LT), j < i → q[j]? = some w → w.2.1 ≠ (c : Int)) ∧ M 155 (c : Int) = -1)
theorem sp_mFilling (ho : pz_ok Z) {M : fx_M} (hz : mz M 0 Z) (hm : mls Z M A) (hr : rooA A) {k : Nat} {x : LN} (hx : A[k]? = some x) (hg : ltg Z x.2.2.2) (K1 : fiL Z x → ∀ M', f155 M M' → Q (some (jI 1)) M') (K0 : ¬ fiL Z x → ∀ M', f155 M M' → Q (some (jI 0)) M') : wc kc (d + 5) 406 [jR 133, jI k] M Q := by
  have h9 := pz_n ho
  have hkl := (List.getElem?_eq_some_iff.mp hx).1
  have hoe := off_end hx
  refine s406 (sp_lits (d := d + 3) hm hr hx (s406_5 (s248 (s406_9 ?_))))
  rw [hz.1, hz.2.1]
  refine ⟨⟨⟨by omega, by omega⟩, ⟨by omega, by omega⟩⟩, fun hlen => ?_, fun hne => K0 (fun hf => ?_) M (fun _ _ _ => rfl)⟩
  · -- the literals
    have lits : ∀ (t i : Nat) (N : fx_M), i + t = x.2.2.2.length → f155 M N → mz N 0 Z → mls Z N A → ent x.2.2.2 i N → (∀ (j : Nat) (w : LT), j < i → x.2.2.2[j]? = some w → w.1 ≠ 0) → (∀ (j j' : Nat) (w w' : LT), j < j' → j' < i → x.2.2.2[j]? = some w → x.2.2.2[j']? = some w' → w.2.1 ≠ w'.2.1) → wp kc (d + 5) 406 37 [some (jR 133), some (jI k), some (jI i), none] [] N Q := by
      intro t
      induction t with
      | zero =>
        intro i N hi fN zN mN eN mi di
        refine s406_37 (sp_lits (d := d + 3) mN hr hx (s406_43 ⟨⟨⟨by omega, by omega⟩, ⟨by omega, by omega⟩⟩, fun _ => ?_, fun h => by omega⟩))
        have hmin : ∀ w ∈ x.2.2.2, w.1 ≠ 0 := fun w hw => by
          obtain ⟨j, hj, ew⟩ := List.mem_iff_getElem.mp hw
          exact mi j w (by omega) (by rw [List.getElem?_eq_getElem hj, ew])
        -- every cell has its literal
        have nd : (x.2.2.2.map fun z => z.2.1.toNat).Nodup := by
          refine List.pairwise_iff_getElem.mpr (fun a b ha hb hab => ?_)
          rw [List.length_map] at ha hb
          rw [List.getElem_map, List.getElem_map]
          intro e
          have b1 := (hg.1 _ (List.getElem_mem ha)).1
          have b2 := (hg.1 _ (List.getElem_mem hb)).1
          exact di a b _ _ hab (by omega) (List.getElem?_eq_getElem ha) (List.getElem?_eq_getElem hb) (by omega)
        have sub : ∀ c ∈ x.2.2.2.map (fun z => z.2.1.toNat), c ∈ List.range (Z.1 * Z.2.1).toNat := fun c hc => by
          obtain ⟨z, hz2, rfl⟩ := List.mem_map.mp hc
          obtain ⟨b1, b2, b3, b4, b5, b6, b7⟩ := lt_b ho hg hz2
          exact List.mem_range.mpr (by omega)
        have cov : ∀ c : Nat, (c : Int) < Z.1 * Z.2.1 → ∃ (j : Nat) (w : LT), x.2.2.2[j]? = some w ∧ w.2.1 = (c : Int) ∧ N 155 (c : Int) = w.2.2 := fun c hc => by
          rcases eN c (by omega) with ⟨j, w, _, h2, h3, h4⟩ | ⟨hn, _⟩
          · exact ⟨j, w, h2, h3, h4⟩
          · exfalso
            have := sub_len (l := c :: x.2.2.2.map fun z => z.2.1.toNat) (m := List.range (Z.1 * Z.2.1).toNat) (List.nodup_cons.mpr ⟨fun hin => by
              obtain ⟨z, hz2, e⟩ := List.mem_map.mp hin
              obtain ⟨j, hj, ez⟩ := List.mem_iff_getElem.mp hz2
              have b1 := (hg.1 z hz2).1
              exact hn j z (by omega) (by rw [List.getElem?_eq_getElem hj, ez]) (by omega), nd⟩) (fun y hy => by
              rcases List.mem_cons.mp hy with e | e
              · rw [e]
                exact List.mem_range.mpr (by omega)
              · exact sub y e)
            rw [List.length_cons, List.length_map, List.length_range] at this
            omega
        have yl : ((List.range (Z.1 * Z.2.1).toNat).map fun (c : Nat) => N 155 (c : Int)).length = (Z.1 * Z.2.1).toNat := by rw [List.length_map, List.length_range]
        have yg : ∀ c : Nat, c < (Z.1 * Z.2.1).toNat → ((List.range (Z.1 * Z.2.1).toNat).map fun (c : Nat) => N 155 (c : Int)).getD c 0 = N 155 (c : Int) := fun c hc => by
          rw [List.getD_eq_getElem?_getD, List.getElem?_map, List.getElem?_range hc]
          rfl
        generalize ((List.range (Z.1 * Z.2.1).toNat).map fun (c : Nat) => N 155 (c : Int)) = y at yl yg
        have yv : ∀ c : Nat, c < y.length → 0 ≤ y.getD c 0 ∧ y.getD c 0 < Z.2.2.1 ∧ ltM Z false x.2.2.2 c = 2 ^ (y.getD c 0).toNat := fun c hc => by
          obtain ⟨j, w, h2, h3, h4⟩ := cov c (by omega)
          have hwm := List.mem_of_getElem? h2
          obtain ⟨b1, b2, b3, b4, b5, b6, b7⟩ := lt_b ho hg hwm
          rw [yg c (by omega), h4]
          refine ⟨by omega, by omega, ?_⟩
          refine pow_of b5 (ltM_16 ho hg.1) (fun s hs => ?_)
          rw [ltM_bit]
          constructor
          · rintro ⟨v, hv, _, _, e3, e4⟩
            obtain ⟨j', hj', ev⟩ := List.mem_iff_getElem.mp hv
            have hv' : x.2.2.2[j']? = some v := by rw [List.getElem?_eq_getElem hj', ev]
            have ejj : j' = j := by
              rcases Nat.lt_trichotomy j' j with h | h | h
              · exact absurd (by rw [e3, h3]) (di j' j v w h (by have := (List.getElem?_eq_some_iff.mp h2).1; omega) hv' h2)
              · exact h
              · exact absurd (by rw [e3, h3]) (di j j' w v h (by omega) h2 hv')
            subst ejj
            rw [h2] at hv'
            cases hv'
            exact e4.symm
          · intro e
            exact ⟨w, hwm, decide_eq_false (hmin w hwm), ltg_lin hg w hwm, h3, e.symm⟩
        refine sp_mIsAnswer (d := d) ho zN (x := y) (by rw [yl]; omega) (fun c hc => by rw [yg c (by omega)]) (fun c hc => ⟨(yv c hc).1, (yv c hc).2.1⟩) (s406_97 ?_)
        by_cases hk2 : okx Z y = true
        · rw [hk2]
          exact ⟨⟨by decide, by decide⟩, K1 ⟨hmin, y, yl, yv, hk2⟩ N fN⟩
        · simp only [Bool.not_eq_true] at hk2
          rw [hk2]
          refine ⟨⟨by decide, by decide⟩, K0 (fun ht => ?_) N fN⟩
          obtain ⟨_, w, w1, w2, w3⟩ := ht
          have ew : w = y := by
            refine List.ext_getElem (by rw [w1, yl]) (fun c h1 h2 => ?_)
            have a1 := w2 c h1
            have a2 := yv c h2
            rw [List.getD_eq_getElem?_getD, List.getElem?_eq_getElem h1, Option.getD_some] at a1
            rw [List.getD_eq_getElem?_getD, List.getElem?_eq_getElem h2, Option.getD_some] at a2
            have := pow2_inj (a1.2.2.symm.trans a2.2.2)
            omega
          rw [ew, hk2] at w3
          cases w3
      | succ t ih =>
        intro i N hi fN zN mN eN mi di
        have hil : i < x.2.2.2.length := by omega
        have hzi := List.getElem?_eq_getElem hil
        have hzm := List.getElem_mem hil
        have hbz := hg.1 _ hzm
        have hlz := ltg_lin hg _ hzm
        obtain ⟨b1, b2, b3, b4, b5, b6, b7⟩ := lt_b ho hg hzm
        refine s406_37 (sp_lits (d := d + 3) mN hr hx (s406_43 ⟨⟨⟨by omega, by omega⟩, ⟨by omega, by omega⟩⟩, fun h => by omega, fun _ => sp_litAt (d := d + 3) mN hr hx hzi (s406_52 (sp_litP (d := d + 3) ho ⟨hbz.1, hbz.2.2.1⟩ hlz (s406_57 ?_)))⟩))
        by_cases h0 : x.2.2.2[i].1 = 0
        · rw [if_pos h0]
          exact ⟨⟨by omega, by omega⟩, fun _ => K0 (fun ht => ht.1 _ hzm h0) N fN, fun h => by omega⟩
        · rw [if_neg h0]
          refine ⟨⟨by omega, by omega⟩, fun h => absurd rfl h, fun _ => sp_litC (d := d + 3) ho ⟨hbz.1, hbz.2.2.1⟩ hlz (s406_68 ?_)⟩
          have e155 := eN x.2.2.2[i].2.1.toNat (by omega)
          rw [b3] at e155
          have h32 : fx_in32 (N 155 x.2.2.2[i].2.1) := by
            rcases e155 with ⟨j, w, _, h2, _, h4⟩ | ⟨_, h4⟩
            · have := hg.1 w (List.mem_of_getElem? h2)
              rw [h4]
              exact ⟨by omega, by omega⟩
            · rw [h4]
              exact ⟨by omega, by omega⟩
          refine ⟨⟨by omega, by omega⟩, h32, fun hneg => sp_litC (d := d + 3) ho ⟨hbz.1, hbz.2.2.1⟩ hlz (s406_82 (sp_litS (d := d + 3) ho ⟨hbz.1, hbz.2.2.1⟩ hlz (s406_86 ⟨⟨by omega, by omega⟩, ?_⟩))), fun hpos => K0 (fun ht => ?_) N fN⟩
          · have hfresh : ∀ (j : Nat) (w : LT), j < i → x.2.2.2[j]? = some w → w.2.1 ≠ x.2.2.2[i].2.1 := by
              rcases e155 with ⟨j, w, _, h2, _, h4⟩ | ⟨hn, _⟩
              · have := hg.1 w (List.mem_of_getElem? h2)
                omega
              · exact hn
            have f1 : f155 N (fx_up N 155 x.2.2.2[i].2.1 x.2.2.2[i].2.2) := fun b j h => fx_up_na h
            have nx := ih (i + 1) (fx_up N 155 x.2.2.2[i].2.1 x.2.2.2[i].2.2) (by omega) (fun b j h => (f1 b j h).trans (fN b j h)) (mz_158 zN (f158_of f1)) (mls_155 mN f1) (fun c hc => by
              by_cases ec : (c : Int) = x.2.2.2[i].2.1
              · left
                exact ⟨i, _, by omega, hzi, ec.symm, by rw [ec, fx_up_self]⟩
              · rw [fx_up_nk ec]
                rcases eN c hc with ⟨j, w, h1, h2, h3, h4⟩ | ⟨hn, h4⟩
                · exact Or.inl ⟨j, w, by omega, h2, h3, h4⟩
                · refine Or.inr ⟨fun j w hj hw => ?_, h4⟩
                  by_cases e : j = i
                  · subst e
                    rw [hzi] at hw
                    cases hw
                    exact fun e2 => ec e2.symm
                  · exact hn j w (by omega) hw) (fun j w hj hw => by
              by_cases e : j = i
              · subst e
                rw [hzi] at hw
                cases hw
                exact h0
              · exact mi j w (by omega) hw) (fun j j' w w' hjj hj' hw hw' => by
              by_cases e : j' = i
              · subst e
                rw [hzi] at hw'
                cases hw'
                exact hfresh j w hjj hw
              · exact di j j' w w' hjj (by omega) hw hw')
            rw [show ((i + 1 : Nat) : Int) = (i : Int) + 1 by omega] at nx
            exact nx
          · obtain ⟨hmin, y, yl, yv, _⟩ := ht
            rcases e155 with ⟨j, w, h1, h2, h3, _⟩ | ⟨_, h4⟩
            · exact fi_inj ho hg hmin yl yv h2 hzi h1 h3
            · omega
    have clr1 : ∀ (t c : Nat) (N : fx_M), c + t = 9 → f155 M N → (∀ c' : Nat, c' < c → N 155 (c' : Int) = -1) → wp kc (d + 5) 406 16 [some (jR 133), some (jI k), some (jI c), none] [] N Q := by
      intro t
      induction t with
      | zero =>
        intro c N hc fN h155
        refine s406_16 ⟨⟨by omega, by omega⟩, fun _ => lits x.2.2.2.length 0 N (by omega) fN (mz_158 hz (f158_of fN)) (mls_155 hm fN) (fun c' hc' => Or.inr ⟨fun j w hj => by omega, h155 c' (by omega)⟩) (fun j w hj => by omega) (fun j j' w w' _ hj' => by omega), fun h => by omega⟩
      | succ t ih =>
        intro c N hc fN h155
        have nx := ih (c + 1) (fx_up N 155 (c : Int) (-1)) (by omega) (fun b j h => by rw [fx_up_na h]; exact fN b j h) (fun c' hc' => by
          by_cases e : c' = c
          · subst e
            rw [fx_up_self]
          · rw [fx_up_nk (by omega)]
            exact h155 c' (by omega))
        rw [show ((c + 1 : Nat) : Int) = (c : Int) + 1 by omega] at nx
        exact s406_16 ⟨⟨by omega, by omega⟩, fun h => by omega, fun _ => ⟨⟨by omega, by omega⟩, nx⟩⟩
    exact clr1 9 0 M (by omega) (fun _ _ _ => rfl) (fun c' hc' => by omega)
  · obtain ⟨hmin, y, yl, yv, _⟩ := hf
    have := fi_len ho hg hmin yl yv
    omega
end MFI
