/-! The reference's verdict. -/
section MCN
variable {kc : List va_E} {d : Nat} {Q : Option fx_V → fx_M → Prop} {Z : PZ} {A : List LN}
/-- what judging a line may change -/
abbrev fck (M N : fx_M) : Prop := ∀ b j, ¬ (155 ≤ b ∧ b ≤ 158) → ¬ (b = 133 ∧ j = 48) → N b j = M b j
theorem fck_158 {M N : fx_M} (f : f158 M N) : fck M N := fun b j h1 h2 => f b j (by omega) (by omega) (by omega) h2
theorem fck_155 {M N : fx_M} (f : f155 M N) : fck M N := fun b j h1 _ => f b j (by omega)
theorem fck_156 {M N : fx_M} (f : f156 M N) : fck M N := fun b j h1 _ => f b j (by omega)
theorem fck_z {M N : fx_M} (f : fck M N) (h : mz M 0 Z) : mz N 0 Z := mz_frM h (fun b j h1 h2 => f b j (by omega) (by omega))
theorem fck_l {M N : fx_M} (f : fck M N) (h : mls Z M A) : mls Z N A := mls_fr h (f _ _ (by omega) (by omega)) (fun b j h1 h2 => f b j (by omega) (by omega))
theorem lkB_ne {k : Int} (h0 : 0 ≤ k) (h4 : k ≤ 4) : (lkB k = 103 ↔ k = 0) ∧ (lkB k = 114 ↔ k = 1) ∧ (lkB k = 119 ↔ k = 2) ∧ (lkB k = 117 ↔ k = 3) ∧ (lkB k = 98 ↔ k = 4) ∧ 0 ≤ lkB k ∧ lkB k ≤ 200 := by
  have h : k = 0 ∨ k = 1 ∨ k = 2 ∨ k = 3 ∨ k = 4 := by omega
  rcases h with e | e | e | e | e <;> subst e <;> decide
theorem sp_mRight (ho : pz_ok Z) {M : fx_M} (hz : mz M 0 Z) (hm : mls Z M A) (hr : rooA A) {k : Nat} {x : LN} (hx : A[k]? = some x) (hk : lnK x) (hg : ∀ (j : Nat) (y : LN), j < k → A[j]? = some y → ltg Z y.2.2.2) (K1 : rgt Z (ptL A k) x → ∀ M', fck M M' → Q (some (jI 1)) M') (K0 : ¬ rgt Z (ptL A k) x → ∀ M', fck M M' → Q (some (jI 0)) M') : wc kc (d + 6) 392 [jR 133, jI k] M Q := by
  have h9 := pz_n ho
  have h12 := ho.2.2.2.2.2.2.1
  have h4s := ho.2.2.2.2.2.1
  have hkl := (List.getElem?_eq_some_iff.mp hx).1
  obtain ⟨k1, k2, k3, k4, k5, k6, k7⟩ := hk
  obtain ⟨m1, m2, m3, _⟩ := hm.2.2 k x hx
  obtain ⟨n0, n1, n2, n3, n4, n5, n6⟩ := lkB_ne k1 k2
  have rf : fck M M := fun _ _ _ _ => rfl
  refine s392 (sp_isWhole (d := d + 3) ho hm hr hx k7 (fun hw => s392_5 ⟨⟨by omega, by omega⟩, fun h => absurd rfl h, fun _ => K0 (fun h => h.1 hw) M rf⟩) (fun hw => s392_5 ⟨⟨by omega, by omega⟩, fun _ => ?_, fun h => by omega⟩))
  have hgx : ltg Z x.2.2.2 := ⟨k7, hw⟩
  have hB : (0 : Int) ≤ (k : Int) ∧ (k : Int) < 3100 := by omega
  rw [m1, m2]
  refine ⟨hB, hB, ⟨by omega, by omega⟩, fun h => ?_, fun h => ?_, fun h => ?_, fun h => ⟨hB, ?_⟩, fun e1 e2 e3 e4 => ?_⟩
  · -- a given
    have hk0 := n0.mp h
    refine s248 (s392_69 ?_)
    rw [hz.1, hz.2.1]
    have yes : gvL Z x → rgt Z (ptL A k) x := fun t => ⟨hw, fun _ => t, fun h' => by omega, fun h' => by omega, fun h' => by omega, fun h' => by omega⟩
    refine ⟨⟨⟨by omega, by omega⟩, ⟨by omega, by omega⟩⟩, fun hge => K0 (fun h' => by have := (h'.2.1 hk0).1; omega) M rf, fun hlt => s271 ⟨⟨by omega, by omega⟩, s392_77 ?_⟩⟩
    have eg : M 154 x.2.1 = Z.2.2.2.2.getD x.2.1.toNat (-1) := by
      have := hz.2.2.2.2.2 x.2.1.toNat (by omega)
      rw [show 9 * (0 : Int) + ((x.2.1.toNat : Nat) : Int) = x.2.1 by omega] at this
      exact this
    have hgb : -1 ≤ Z.2.2.2.2.getD x.2.1.toNat (-1) ∧ Z.2.2.2.2.getD x.2.1.toNat (-1) < Z.2.2.1 := by
      have hl9 := ho.2.2.2.2.2.2.2.2.1
      have hlt2 : x.2.1.toNat < Z.2.2.2.2.length := by omega
      rw [List.getD_eq_getElem?_getD, List.getElem?_eq_getElem hlt2, Option.getD_some]
      exact ho.2.2.2.2.2.2.2.2.2.1 _ (List.getElem_mem hlt2)
    rw [eg]
    generalize hG : Z.2.2.2.2.getD x.2.1.toNat (-1) = G at hgb eg ⊢
    refine ⟨⟨by omega, by omega⟩, fun hneg => K0 (fun h' => by have := (h'.2.1 hk0).2.1; omega) M rf, fun hpos => s271 ⟨⟨by omega, by omega⟩, s392_89 ?_⟩⟩
    rw [eg]
    have iff1 : (∃ z ∈ x.2.2.2, lcd Z z = 1 + 2 * G + 8 * x.2.1) ↔ (ltM Z true x.2.2.2 x.2.1.toNat).testBit G.toNat = true := by
      rw [ltM_bit]
      constructor
      · rintro ⟨z, hz2, e⟩
        have hb := hgx.1 z hz2
        obtain ⟨a1, a2, a3, a4, a5, a6⟩ := lcd_eq ho ⟨hb.1, hb.2.2.1⟩ (ltg_lin hgx z hz2)
        rw [e] at a2 a3 a4
        exact ⟨z, hz2, decide_eq_true (a4.mp (by omega)), ltg_lin hgx z hz2, by omega, by omega⟩
      · rintro ⟨z, hz2, e1, e2, e3, e4⟩
        have hb := hgx.1 z hz2
        obtain ⟨a1, _, _, _, _, _⟩ := lcd_eq ho ⟨hb.1, hb.2.2.1⟩ e2
        rw [if_pos (of_decide_eq_true e1)] at a1
        exact ⟨z, hz2, by omega⟩
    refine sp_hasLit (d := d + 3) ho hm hr hx k7 ⟨by omega, by omega⟩ (fun ht => s392_99 ?_) (fun ht => s392_99 ?_)
    · rw [if_neg (by decide)]
      refine ⟨⟨by omega, by omega⟩, ⟨by omega, by omega⟩, K1 (yes ⟨hlt, by rw [hG]; exact hpos, by rw [hG]; exact iff1.mp ht⟩) M rf⟩
    · rw [if_pos rfl]
      refine ⟨⟨by omega, by omega⟩, ⟨by omega, by omega⟩, K0 (fun h' => ht (iff1.mpr ?_)) M rf⟩
      have := (h'.2.1 hk0).2.2
      rw [hG] at this
      exact this
  · -- by a rule
    have hk1 := n1.mp h
    by_cases hlt : x.2.1 < Z.2.2.2.1.length
    · have hrl : x.2.1.toNat < Z.2.2.2.1.length := by omega
      have hR := List.getElem?_eq_getElem hrl
      have sp := sp_mByRules (kc := kc) (d := d + 1) (Q := fun v M1 => wp kc (d + 6) 392 115 [none, none, none] (v.toList ++ []) M1 Q) ho hz hm hr hx hgx (s := none) (q := -1) hR (Or.inl ⟨by omega, by omega, rfl⟩) (fun _ hn M' f => s392_115 ⟨⟨by omega, by omega⟩, K1 ⟨hw, fun h' => by omega, fun _ => ⟨_, hR, hn⟩, fun h' => by omega, fun h' => by omega, fun h' => by omega⟩ M' (fck_158 f)⟩) (fun hn M' f => s392_115 ⟨⟨by omega, by omega⟩, K0 (fun h' => ?_) M' (fck_158 f)⟩)
      · rw [show ((x.2.1.toNat : Nat) : Int) = x.2.1 by omega] at sp
        exact sp
      · obtain ⟨R, t1, t2⟩ := h'.2.2.1 hk1
        rw [hR] at t1
        cases t1
        refine hn ⟨?_, t2⟩
        have hok := (ho.2.2.2.2.2.2.2.1 _ (List.getElem_mem hrl)).2.2.2.2.2.1
        have e0 : jnC Z.2.2.2.1[x.2.1.toNat] none = Z.2.2.2.1[x.2.1.toNat].2.2 := by
          unfold jnC
          simp
        rw [e0]
        omega
    · refine s397 ?_
      rw [hz.2.2.2.1]
      refine ⟨⟨⟨by omega, by omega⟩, ⟨by omega, by omega⟩⟩, fun _ => s392_115 ⟨⟨by omega, by omega⟩, K0 (fun h' => ?_) M rf⟩, fun h' => absurd h' hlt⟩
      obtain ⟨R, t1, _⟩ := h'.2.2.1 hk1
      have := (List.getElem?_eq_some_iff.mp t1).1
      omega
  · -- by units
    have hk3 := n3.mp h
    exact sp_mByUnits (d := d + 1) ho hz hm hr hx hgx hg (fun t M' f => s392_152 ⟨⟨by omega, by omega⟩, K1 ⟨hw, fun h' => by omega, fun h' => by omega, fun h' => by omega, fun _ => t, fun h' => by omega⟩ M' (fck_156 f)⟩) (fun t M' f => s392_152 ⟨⟨by omega, by omega⟩, K0 (fun h' => t (h'.2.2.2.2.1 hk3)) M' (fck_156 f)⟩)
  · -- by two rules
    have hk2 := n2.mp h
    rw [m3 hk2]
    have tw : ¬ twL Z x → ∀ M', fck M M' → Q (some (jI 0)) M' := fun t M' f => K0 (fun h' => t (h'.2.2.2.1 hk2)) M' f
    refine ⟨⟨⟨by omega, by omega⟩, ⟨by omega, by omega⟩⟩, fun hge => tw (fun t => by have := t.1; omega) M rf, fun hlt => ⟨hB, ?_⟩⟩
    by_cases hlt2 : x.2.2.1 < Z.2.2.2.1.length
    · have hr1 : x.2.1.toNat < Z.2.2.2.1.length := by omega
      have hr2 : x.2.2.1.toNat < Z.2.2.2.1.length := by omega
      have hR := List.getElem?_eq_getElem hr1
      have hR2 := List.getElem?_eq_getElem hr2
      have sp := sp_mByRules (kc := kc) (d := d + 1) (Q := fun v M1 => wp kc (d + 6) 392 138 [none, none, none] (v.toList ++ []) M1 Q) ho hz hm hr hx hgx (s := some Z.2.2.2.1[x.2.2.1.toNat]) (q := x.2.2.1) hR (Or.inr ⟨x.2.2.1.toNat, _, by omega, rfl, hR2⟩) (fun h6 hn M' f => s392_138 ?_) (fun hn M' f => s392_138 ?_)
      · rw [show ((x.2.1.toNat : Nat) : Int) = x.2.1 by omega] at sp
        exact sp
      · rw [if_neg (by decide)]
        exact ⟨⟨by omega, by omega⟩, ⟨by omega, by omega⟩, K1 ⟨hw, fun h' => by omega, fun h' => by omega, fun _ => ⟨hlt, _, _, hR, hR2, h6, hn⟩, fun h' => by omega, fun h' => by omega⟩ M' (fck_158 f)⟩
      · rw [if_pos rfl]
        refine ⟨⟨by omega, by omega⟩, ⟨by omega, by omega⟩, tw (fun t => ?_) M' (fck_158 f)⟩
        obtain ⟨_, R, R2, t1, t2, t3, t4⟩ := t
        rw [hR] at t1
        rw [hR2] at t2
        cases t1
        cases t2
        exact hn ⟨t3, t4⟩
    · have notw : ¬ twL Z x := fun t => by
        obtain ⟨_, R, R2, t1, t2, t3, t4⟩ := t
        have := (List.getElem?_eq_some_iff.mp t2).1
        omega
      have fin : wp kc (d + 6) 392 138 [none, none, none] ((some (jI 0)).toList ++ []) M Q := by
        refine s392_138 ?_
        rw [if_pos rfl]
        exact ⟨⟨by omega, by omega⟩, ⟨by omega, by omega⟩, tw notw M rf⟩
      refine s397 ?_
      rw [hz.2.2.2.1]
      exact ⟨⟨⟨by omega, by omega⟩, ⟨by omega, by omega⟩⟩, fun _ => fin, fun _ => ⟨⟨⟨by omega, by omega⟩, ⟨by omega, by omega⟩⟩, fun h' => absurd h' hlt2, fun _ => fin⟩⟩
  · -- an answer
    have hk4 : x.1 = 4 := by
      have h0 : x.1 ≠ 0 := fun e => e1 (n0.mpr e)
      have h1 : x.1 ≠ 1 := fun e => e2 (n1.mpr e)
      have h2 : x.1 ≠ 2 := fun e => e4 (n2.mpr e)
      have h3 : x.1 ≠ 3 := fun e => e3 (n3.mpr e)
      omega
    exact sp_mFilling (d := d) ho hz hm hr hx hgx (fun t M' f => s392_158 ⟨⟨by omega, by omega⟩, K1 ⟨hw, fun h' => by omega, fun h' => by omega, fun h' => by omega, fun h' => by omega, fun _ => t⟩ M' (fck_155 f)⟩) (fun t M' f => s392_158 ⟨⟨by omega, by omega⟩, K0 (fun h' => t (h'.2.2.2.2.2 hk4)) M' (fck_155 f)⟩)
/-- two lines of answers -/
theorem sam_fi (ho : pz_ok Z) {x y : LN} (hx : ltg Z x.2.2.2) (hy : ltg Z y.2.2.2) (fx : fiL Z x) (fy : fiL Z y) : (∀ z ∈ y.2.2.2, ∃ w ∈ x.2.2.2, lcd Z w = lcd Z z) ↔ samF Z x.2.2.2 y.2.2.2 := by
  have h9 := pz_n ho
  have h4 := ho.2.2.2.2.2.1
  obtain ⟨mx, u, ul, uv, _⟩ := fx
  obtain ⟨my, v, vl, vv, _⟩ := fy
  constructor
  · intro h c hc
    by_cases hcn : (c : Int) < Z.1 * Z.2.1
    · have a1 := uv c (by omega)
      have a2 := vv c (by omega)
      have hb : (ltM Z false y.2.2.2 c).testBit (v.getD c 0).toNat = true := by
        rw [a2.2.2, pow_bit]
        exact decide_eq_true rfl
      obtain ⟨z, hz, _, lz, e3, e4⟩ := ltM_bit.mp hb
      obtain ⟨w, hw, e⟩ := h z hz
      have bz := hy.1 z hz
      have bw := hx.1 w hw
      have lw := ltg_lin hx w hw
      have el := (lcd_ltn ho ⟨bw.1, bw.2.2.1⟩ ⟨bz.1, bz.2.2.1⟩ lw lz).mp e
      unfold ltn at el
      have e2 := (Prod.mk.inj el).2
      have hb2 : (ltM Z false x.2.2.2 c).testBit (v.getD c 0).toNat = true := ltM_bit.mpr ⟨w, hw, decide_eq_false (mx w hw), lw, by rw [e2]; exact e3, by rw [e2]; exact e4⟩
      rw [a1.2.2, pow_bit, decide_eq_true_eq] at hb2
      rw [a1.2.2, a2.2.2, hb2]
    · rw [ltM_hi ho (by omega), ltM_hi ho (by omega)]
  · intro h z hz
    obtain ⟨b1, b2, b3, b4, b5, b6, b7⟩ := lt_b ho hy hz
    have lz := ltg_lin hy z hz
    have hb : (ltM Z false x.2.2.2 z.2.1.toNat).testBit z.2.2.toNat = true := by
      rw [h _ (by omega)]
      exact ltM_bit.mpr ⟨z, hz, decide_eq_false (my z hz), lz, b3.symm, rfl⟩
    obtain ⟨w, hw, _, lw, e3, e4⟩ := ltM_bit.mp hb
    have bw := hx.1 w hw
    refine ⟨w, hw, (lcd_ltn ho ⟨bw.1, bw.2.2.1⟩ ⟨b1, b4⟩ lw lz).mpr ?_⟩
    unfold ltn
    rw [if_neg (mx w hw), if_neg (my z hz)]
    have e2 : w.2 = z.2 := Prod.ext (by omega) (by omega)
    rw [e2]
theorem sp_isSame (ho : pz_ok Z) {M : fx_M} (hm : mls Z M A) (hr : rooA A) {j k : Nat} {x y : LN} (hx : A[j]? = some x) (hy : A[k]? = some y) (hlx : lts x.2.2.2) (hly : lts y.2.2.2) (K1 : (∀ z ∈ y.2.2.2, ∃ w ∈ x.2.2.2, lcd Z w = lcd Z z) → Q (some (jI 1)) M) (K0 : (¬ ∀ z ∈ y.2.2.2, ∃ w ∈ x.2.2.2, lcd Z w = lcd Z z) → Q (some (jI 0)) M) : wc kc (d + 3) 408 [jR 133, jI j, jI k] M Q := by
  have hj := (List.getElem?_eq_some_iff.mp hx).1
  have hk := (List.getElem?_eq_some_iff.mp hy).1
  have hoe := off_end hy
  have z : ∀ (t i : Nat), i + t = y.2.2.2.length → (∀ (n : Nat) (z : LT), n < i → y.2.2.2[n]? = some z → ∃ w ∈ x.2.2.2, lcd Z w = lcd Z z) → wp kc (d + 3) 408 2 [some (jR 133), some (jI j), some (jI k), some (jI i)] [] M Q := by
    intro t
    induction t with
    | zero =>
      intro i hi hn
      refine s408_2 (sp_lits (d := d + 1) hm hr hy (s408_8 ⟨⟨⟨by omega, by omega⟩, ⟨by omega, by omega⟩⟩, fun _ => K1 (fun z hz => ?_), fun h => by omega⟩))
      obtain ⟨n, hn2, ez⟩ := List.mem_iff_getElem.mp hz
      exact hn n z (by omega) (by rw [List.getElem?_eq_getElem hn2, ez])
    | succ t ih =>
      intro i hi hn
      have hil : i < y.2.2.2.length := by omega
      have hz := List.getElem?_eq_getElem hil
      have bz := lcd_b ho (hly _ (List.getElem_mem hil))
      refine s408_2 (sp_lits (d := d + 1) hm hr hy (s408_8 ⟨⟨⟨by omega, by omega⟩, ⟨by omega, by omega⟩⟩, fun h => by omega, fun _ => sp_litAt (d := d + 1) hm hr hy hz (s408_19 (sp_hasLit (d := d) ho hm hr hx hlx ⟨by omega, by omega⟩ (fun h1 => s408_22 ⟨⟨by omega, by omega⟩, fun _ => ?_, fun h => by omega⟩) (fun h0 => s408_22 ⟨⟨by omega, by omega⟩, fun h => absurd rfl h, fun _ => K0 (fun hall => h0 (hall _ (List.getElem_mem hil)))⟩)))⟩))
      have nx := ih (i + 1) (by omega) (fun n z hn2 hz2 => by
        by_cases e : n = i
        · subst e
          rw [hz] at hz2
          cases hz2
          exact h1
        · exact hn n z (by omega) hz2)
      rw [show ((i + 1 : Nat) : Int) = (i : Int) + 1 by omega] at nx
      exact nx
  exact s408 (z y.2.2.2.length 0 (by omega) (fun n z hn => by omega))
theorem sp_mFillings (ho : pz_ok Z) {M : fx_M} (hm : mls Z M A) (hr : rooA A) (hK : ∀ x ∈ A, lnK x) (hR : allR Z A A.length) (K : Q (some (jI (nFi Z A A.length : Nat))) M) : wc kc (d + 4) 407 [jR 133] M Q := by
  have kind : ∀ (i : Nat) (hi : i < A.length), M 138 (i : Int) = lkB A[i].1 := fun i hi => (hm.2.2 i _ (List.getElem?_eq_getElem hi)).1
  have inn : ∀ (i : Nat), i < A.length → (wp kc (d + 4) 407 4 [some (jR 133), some (jI (nFi Z A (i + 1) : Nat)), some (jI ((i : Int) + 1)), none, none] [] M Q) → ∀ (t j : Nat) (v : Int), j + t = i → ((v = 1 ∧ (lnA A i).1 = 4 ∧ ∀ j', j' < j → (lnA A j').1 = 4 → ¬ samF Z (lnA A j').2.2.2 (lnA A i).2.2.2) ∨ (v = 0 ∧ ¬ frs Z A i)) → wp kc (d + 4) 407 32 [some (jR 133), some (jI (nFi Z A i : Nat)), some (jI i), some (jI v), some (jI j)] [] M Q := by
    intro i hi KK t
    have hxi := List.getElem?_eq_getElem hi
    have ei := lnA_of hxi
    have ki := hK _ (List.getElem_mem hi)
    have hri := hR i hi
    rw [ei] at hri
    have hle := nFi_le (Z := Z) (A := A) i
    have out : ∀ v : Int, ((v = 1 ∧ frs Z A i) ∨ (v = 0 ∧ ¬ frs Z A i)) → fx_in32 v ∧ wp kc (d + 4) 407 4 [some (jR 133), some (jI ((nFi Z A i : Nat) + (if v = 0 then (0 : Int) else 1))), some (jI ((i : Int) + 1)), none, none] [] M Q := fun v hv => by
      rw [nFi] at KK
      rcases hv with ⟨h1, h2⟩ | ⟨h1, h2⟩
      · rw [if_pos h2, show ((nFi Z A i + 1 : Nat) : Int) = (nFi Z A i : Nat) + 1 by omega] at KK
        rw [h1, if_neg (by decide)]
        exact ⟨⟨by omega, by omega⟩, KK⟩
      · rw [if_neg h2, show ((nFi Z A i + 0 : Nat) : Int) = (nFi Z A i : Nat) + 0 by omega] at KK
        rw [h1, if_pos rfl]
        exact ⟨⟨by omega, by omega⟩, KK⟩
    induction t with
    | zero =>
      intro j v hj hv
      refine s407_32 ⟨⟨⟨by omega, by omega⟩, ⟨by omega, by omega⟩⟩, fun _ => out v ?_, fun h => by omega⟩
      rcases hv with ⟨h1, h2, h3⟩ | h
      · exact Or.inl ⟨h1, h2, fun j' hj' => h3 j' (by omega)⟩
      · exact Or.inr h
    | succ t ih =>
      intro j v hj hv
      have hjl : j < A.length := by omega
      have hxj := List.getElem?_eq_getElem hjl
      have ejx := lnA_of hxj
      have kj := hK _ (List.getElem_mem hjl)
      have hrj := hR j hjl
      rw [ejx] at hrj
      have ej : ((j + 1 : Nat) : Int) = (j : Int) + 1 := by omega
      rcases hv with ⟨h1, h2, h3⟩ | ⟨h1, h2⟩
      · subst h1
        obtain ⟨n0, n1, n2, n3, n4, n5, n6⟩ := lkB_ne kj.1 kj.2.1
        refine s407_32 ?_
        rw [kind j hjl]
        refine ⟨⟨⟨by omega, by omega⟩, ⟨by omega, by omega⟩⟩, fun h => by omega, fun _ => ⟨⟨by omega, by omega⟩, fun h => by omega, fun _ => ⟨⟨by omega, by omega⟩, ⟨by omega, by omega⟩, fun hne => ?_, fun he => ?_⟩⟩⟩
        · have nx := ih (j + 1) 1 (by omega) (Or.inl ⟨rfl, h2, fun j' hj' h4 => by
            by_cases e : j' = j
            · subst e
              rw [ejx] at h4
              exact absurd (n4.mpr h4) hne
            · exact h3 j' (by omega) h4⟩)
          rw [ej] at nx
          exact nx
        · have h4j := n4.mp he
          have h4i : A[i].1 = 4 := by rw [ei] at h2; exact h2
          have gx : ltg Z A[j].2.2.2 := ⟨kj.2.2.2.2.2.2, hrj.1⟩
          have gy : ltg Z A[i].2.2.2 := ⟨ki.2.2.2.2.2.2, hri.1⟩
          have sm := sam_fi ho gx gy (hrj.2.2.2.2.2 h4j) (hri.2.2.2.2.2 h4i)
          refine sp_isSame (d := d) ho hm hr hxj hxi gx.1 gy.1 (fun hs => s407_61 ?_) (fun hs => s407_61 ?_)
          · rw [if_neg (by decide)]
            have nx := ih (j + 1) 0 (by omega) (Or.inr ⟨rfl, fun hf => hf.2 j (by omega) (by rw [ejx]; exact h4j) (by rw [ejx, ei]; exact sm.mp hs)⟩)
            rw [ej] at nx
            exact ⟨⟨by omega, by omega⟩, nx⟩
          · rw [if_pos rfl]
            have nx := ih (j + 1) 1 (by omega) (Or.inl ⟨rfl, h2, fun j' hj' h4 => by
              by_cases e : j' = j
              · subst e
                rw [ejx, ei]
                exact fun h => hs (sm.mpr h)
              · exact h3 j' (by omega) h4⟩)
            rw [ej] at nx
            exact ⟨⟨by omega, by omega⟩, nx⟩
      · subst h1
        exact s407_32 ⟨⟨⟨by omega, by omega⟩, ⟨by omega, by omega⟩⟩, fun h => by omega, fun _ => ⟨⟨by omega, by omega⟩, fun _ => out 0 (Or.inr ⟨rfl, h2⟩), fun h => absurd rfl h⟩⟩
  have z : ∀ (t i : Nat), i + t = A.length → wp kc (d + 4) 407 4 [some (jR 133), some (jI (nFi Z A i : Nat)), some (jI i), none, none] [] M Q := by
    intro t
    induction t with
    | zero =>
      intro i hi
      have e : i = A.length := by omega
      subst e
      refine s407_4 ?_
      rw [hm.1]
      exact ⟨⟨⟨by omega, by omega⟩, ⟨by omega, by omega⟩⟩, fun _ => K, fun h => by omega⟩
    | succ t ih =>
      intro i hi
      have hil : i < A.length := by omega
      have hx := List.getElem?_eq_getElem hil
      have ex := lnA_of hx
      have kk := hK _ (List.getElem_mem hil)
      have nx := ih (i + 1) (by omega)
      rw [show ((i + 1 : Nat) : Int) = (i : Int) + 1 by omega] at nx
      obtain ⟨n0, n1, n2, n3, n4, n5, n6⟩ := lkB_ne kk.1 kk.2.1
      refine s407_4 ?_
      rw [hm.1, kind i hil]
      refine ⟨⟨⟨by omega, by omega⟩, ⟨by omega, by omega⟩⟩, fun h => by omega, fun _ => ⟨⟨by omega, by omega⟩, ⟨by omega, by omega⟩, inn i hil nx i 0 _ (by omega) ?_⟩⟩
      by_cases h4 : A[i].1 = 4
      · rw [if_pos (n4.mpr h4)]
        exact Or.inl ⟨rfl, by rw [ex]; exact h4, fun j' hj' => by omega⟩
      · rw [if_neg (fun h => h4 (n4.mp h))]
        exact Or.inr ⟨rfl, fun hf => h4 (by have := hf.1; rw [ex] at this; exact this)⟩
  exact s407 (z A.length 0 (by omega))
theorem sp_sayCheck {M : fx_M} (ho : pz_ok Z) (hz : mz M 0 Z) (hm : mls Z M A) (hr : rooA A) (hA1 : 1 ≤ A.length) (hK : ∀ x ∈ A, lnK x) (hO : m_ok M) (K : ∀ M', mwr M M' (tCheck Z A) → Q none M') : wc kc (d + 7) 391 [jR 133] M Q := by
  have wf : ∀ {N : fx_M}, fck M N → mwr M N [] := fun f b j hb => f b j (fun h => hb (by unfold msc; omega)) (fun h => hb (by unfold msc; omega))
  have z : ∀ (t i : Nat) (N : fx_M), i + t = A.length → allR Z A i → fck M N → tCk Z A t i = tCheck Z A → wp kc (d + 7) 391 2 [some (jR 133), some (jI i)] [] N Q := by
    intro t
    induction t with
    | zero =>
      intro i N hi hR fN eT
      have e : i = A.length := by omega
      subst e
      have zN := fck_z fN hz
      have mN := fck_l fN hm
      have hON := mwr_ok (wf fN) hO
      have hl : A.length - 1 < A.length := by omega
      have hx := List.getElem?_eq_getElem hl
      have ex := lnA_of hx
      have kk := hK _ (List.getElem_mem hl)
      have hoe := off_end hx
      obtain ⟨n0, n1, n2, n3, n4, n5, n6⟩ := lkB_ne kk.1 kk.2.1
      have hn1 := nFi_le (Z := Z) (A := A) A.length
      have eL : (A.length : Int) - 1 = ((A.length - 1 : Nat) : Int) := by omega
      have e138 := (mN.2.2 _ _ hx).1
      rw [tCk] at eT
      unfold tCkE at eT
      rw [ex] at eT
      have op : ¬ (A[A.length - 1].1 = 3 ∧ A[A.length - 1].2.2.2 = []) → wc kc (d + 6) 221 [jI 38] N (fun v M1 => wp kc (d + 7) 391 71 [none, none] (v.toList ++ [jR 133]) M1 Q) := fun hn => by
        rw [if_neg hn] at eT
        refine sp_word (d := d + 5) (by omega) (by omega) (s391_71 (sp_sayWord (d := d + 3) (wrd_ok (by omega) (by omega)) hON (s391_74 (K _ ?_))))
        rw [← eT]
        have := mwr_tr (wf fN) (mwr_app (cs := wls (wrd 38)))
        rw [List.nil_append] at this
        exact this
      refine s391_2 ?_
      rw [mN.1, eL]
      refine ⟨⟨⟨by omega, by omega⟩, ⟨by omega, by omega⟩⟩, fun _ => sp_lits (d := d + 5) mN hr hx (s391_46 ?_), fun h => by omega⟩
      rw [mN.1, eL, e138]
      refine ⟨⟨by omega, by omega⟩, fun hpos => op (fun h => by rw [h.2] at hpos; simp at hpos), fun h0 => ⟨⟨by omega, by omega⟩, ⟨by omega, by omega⟩, fun h3 => ?_, fun h3 => op (fun h => h3 (n3.mpr h.1))⟩⟩
      have hq0 : A[A.length - 1].2.2.2 = [] := List.eq_nil_of_length_eq_zero (by omega)
      rw [if_pos ⟨n3.mp h3, hq0⟩] at eT
      refine sp_mFillings (d := d + 2) ho mN hr hK hR (s391_85 (sp_sayCount (d := d + 2) (by unfold w_ok; omega) hON (by omega) (by omega) (s391_88 (K _ ?_))))
      rw [← eT]
      have := mwr_tr (wf fN) (mwr_app (cs := wls 482956242790 ++ 32 :: dgs (nFi Z A A.length : Int)))
      rw [List.nil_append] at this
      exact this
    | succ t ih =>
      intro i N hi hR fN eT
      have zN := fck_z fN hz
      have mN := fck_l fN hm
      have hON := mwr_ok (wf fN) hO
      have hil : i < A.length := by omega
      have hx := List.getElem?_eq_getElem hil
      have ex := lnA_of hx
      have kk := hK _ (List.getElem_mem hil)
      rw [tCk, ex] at eT
      refine s391_2 ?_
      rw [mN.1]
      refine ⟨⟨⟨by omega, by omega⟩, ⟨by omega, by omega⟩⟩, fun h => by omega, fun _ => sp_mRight (d := d) ho zN mN hr hx kk (fun j y hj hy => ?_) (fun hr2 M1 f1 => s391_15 ⟨⟨by omega, by omega⟩, fun h => by omega, fun _ => ?_⟩) (fun hr2 M1 f1 => s391_15 ⟨⟨by omega, by omega⟩, fun _ => ?_, fun h => absurd rfl h⟩)⟩
      · have hrj := hR j hj
        rw [lnA_of hy] at hrj
        obtain ⟨hjl, ey⟩ := List.getElem?_eq_some_iff.mp hy
        exact ⟨(hK y (ey ▸ List.getElem_mem hjl)).2.2.2.2.2.2, hrj.1⟩
      · rw [if_pos hr2] at eT
        have nx := ih (i + 1) M1 (by omega) (fun j hj => by
          by_cases e : j = i
          · subst e
            rw [ex]
            exact hr2
          · exact hR j (by omega)) (fun b j h1 h2 => (f1 b j h1 h2).trans (fN b j h1 h2)) eT
        rw [show ((i + 1 : Nat) : Int) = (i : Int) + 1 by omega] at nx
        exact nx
      · rw [if_neg hr2] at eT
        have fM1 : fck M M1 := fun b j h1 h2 => (f1 b j h1 h2).trans (fN b j h1 h2)
        refine sp_sayCount (d := d + 2) (by unfold w_ok; omega) (mwr_ok (wf fM1) hO) (by omega) (by omega) (s391_29 (K _ ?_))
        rw [← eT]
        have := mwr_tr (wf fM1) (mwr_app (cs := wls 1818848869 ++ 32 :: dgs (i : Int)))
        rw [List.nil_append] at this
        exact this
  exact s391 (z A.length 0 M (by omega) (fun j hj => by omega) (fun _ _ _ _ => rfl) rfl)
end MCN
