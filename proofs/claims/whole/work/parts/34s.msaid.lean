/-! FORMS, the reference: a rule in a slot, its text; two texts compared. -/
/-- slot s of the reference holds the rule R -/
def mR (M : fx_M) (s : Int) (R : PR) : Prop := M 150 s = piK.getD R.1.toNat 0 ∧ M 151 s = R.2.1 ∧ M 152 s = R.2.2.length ∧ ∀ (i : Nat) (c : Int), R.2.2[i]? = some c → M 153 (4 * s + i) = c
theorem mR_fr {M N : fx_M} {s : Int} {R : PR} (h4 : R.2.2.length ≤ 4) (h : mR M s R) (f1 : ∀ b, b = 150 ∨ b = 151 ∨ b = 152 → N b s = M b s) (f2 : ∀ j, 4 * s ≤ j → j < 4 * s + 4 → N 153 j = M 153 j) : mR N s R := by
  obtain ⟨a1, a2, a3, a4⟩ := h
  refine ⟨by rw [f1 _ (by omega)]; exact a1, by rw [f1 _ (by omega)]; exact a2, by rw [f1 _ (by omega)]; exact a3, fun i c hi => ?_⟩
  have hl := (List.getElem?_eq_some_iff.mp hi).1
  rw [f2 _ (by omega) (by omega)]
  exact a4 i c hi
theorem mR_app {M : fx_M} {s : Int} {R : PR} {cs : List Int} (h : mR M s R) : mR (m_app M cs) s R := by
  have f : ∀ (b : Nat) (j : Int), b ≠ 133 → b ≠ 136 → (m_app M cs) b j = M b j := fun b j h1 h2 => m_app_ne (by omega) h2
  obtain ⟨a1, a2, a3, a4⟩ := h
  exact ⟨by rw [f _ _ (by decide) (by decide)]; exact a1, by rw [f _ _ (by decide) (by decide)]; exact a2, by rw [f _ _ (by decide) (by decide)]; exact a3, fun i c hi => by rw [f _ _ (by decide) (by decide)]; exact a4 i c hi⟩
theorem mR_mz {M : fx_M} {u : Int} {Z : PZ} {r : Nat} {R : PR} (hz : mz M u Z) (hR : Z.2.2.2.1[r]? = some R) : mR M (12 * u + r) R := hz.2.2.2.2.1 r R hR
theorem tx_b {R : PR} (h : pr_ok 9 R) : (tx R).length ≤ 21 ∧ ∀ c ∈ tx R, 0 ≤ c ∧ c ≤ 255 := by
  have := tRule_b h (by omega)
  rw [tRule_tx] at this
  exact ⟨by have := this.1; rw [List.length_cons] at this; omega, fun c hc => this.2 c (List.mem_cons_of_mem _ hc)⟩
/-- the first difference of two texts, else of their lengths -/
def cmpT : List Int → List Int → Int
  | [], B => -(B.length : Int)
  | a :: A, [] => ((a :: A).length : Int)
  | a :: A, b :: B => if a = b then cmpT A B else a - b
theorem cmpT_sw : ∀ {A B : List Int}, cmpT B A = - cmpT A B
  | [], [] => rfl
  | [], b :: B => by
    rw [cmpT, cmpT]
    omega
  | a :: A, [] => by
    rw [cmpT, cmpT]
  | a :: A, b :: B => by
    rw [cmpT, cmpT]
    by_cases h : a = b
    · rw [if_pos h, if_pos h.symm]
      exact cmpT_sw
    · rw [if_neg h, if_neg (fun e => h e.symm)]
      omega
theorem cmpT_self : ∀ {A : List Int}, cmpT A A = 0
  | [] => rfl
  | a :: A => by
    rw [cmpT, if_pos rfl]
    exact cmpT_self
theorem cmpT_lt : ∀ {A B : List Int}, ltW A B = true → cmpT A B < 0
  | [], _, h => by cases h
  | _ :: _, [], h => by cases h
  | a :: A, b :: B, h => by
    rw [ltW] at h
    rw [cmpT]
    by_cases e : a = b
    · rw [if_pos e] at h
      rw [if_pos e]
      exact cmpT_lt h
    · rw [if_neg e] at h
      rw [if_neg e]
      have := of_decide_eq_true h
      omega
theorem cmpT_pre : ∀ {A X : List Int}, X ≠ [] → cmpT A (A ++ X) < 0
  | [], X, h => by
    rw [List.nil_append, cmpT]
    have := List.length_pos_iff.mpr h
    omega
  | a :: A, X, h => by
    rw [List.cons_append, cmpT, if_pos rfl]
    exact cmpT_pre h
theorem cmpT_neg {A B : List Int} (hl : A.length = B.length) (h : ltW A B = false) : 0 ≤ cmpT A B := by
  rcases ltW_tri hl with e | e | e
  · rw [h] at e
    cases e
  · have := cmpT_lt e
    have := cmpT_sw (A := A) (B := B)
    omega
  · rw [e, cmpT_self]
    omega
theorem cmpT_pos {A B : List Int} (hl : A.length = B.length) : 0 < cmpT A B ↔ ltW B A = true := by
  constructor
  · intro h
    cases e : ltW B A with
    | true => rfl
    | false =>
      have := cmpT_neg hl.symm e
      have := cmpT_sw (A := A) (B := B)
      omega
  · intro h
    have := cmpT_lt h
    have := cmpT_sw (A := A) (B := B)
    omega
theorem cmpT_ky {a b : PR} (ha : vR a) (hb : vR b) : (kyR a < kyR b → cmpT (tx a) (tx b) < 0) ∧ (kyR a = kyR b → cmpT (tx a) (tx b) = 0) ∧ (kyR b < kyR a → 0 < cmpT (tx a) (tx b)) := by
  have g : ∀ {x y : PR}, vR x → vR y → kyR x < kyR y → cmpT (tx x) (tx y) < 0 := fun {x y} hx hy h => by
    rcases ky_tx hx hy h with e | ⟨X, hX, e⟩
    · exact cmpT_lt e
    · rw [e]
      exact cmpT_pre hX
  refine ⟨g ha hb, fun h => by rw [ky_inj ha hb h]; exact cmpT_self, fun h => ?_⟩
  have := g hb ha h
  have := cmpT_sw (A := tx a) (B := tx b)
  omega
section MSD
variable {kc : List va_E} {d : Nat} {M : fx_M} {Q : Option fx_V → fx_M → Prop}
theorem msl_loop {R : PR} {s : Int} (hs : 0 ≤ s ∧ s < 120) (hRok : pr_ok 9 R) : ∀ (t i : Nat) (M : fx_M), i + t = R.2.2.length → mR M s R → m_ok M → Q none (m_app M ((R.2.2.drop i).flatMap (fun c => 32 :: dgs c))) → wp kc (d + 4) 338 50 [some (jR 133), some (jI s), some (jI i)] [] M Q := by
  have h4 := hRok.2.2.2.2.2.1
  intro t
  induction t with
  | zero =>
    intro i M hi hz hO K
    obtain ⟨a1, a2, a3, a4⟩ := hz
    have e : R.2.2.drop i = [] := List.drop_eq_nil_of_le (by omega)
    rw [e] at K
    refine s338_50 ?_
    rw [a3]
    exact ⟨⟨by omega, by omega⟩, ⟨⟨by omega, by omega⟩, ⟨by omega, by omega⟩⟩, fun _ => K, fun h => by omega⟩
  | succ t ih =>
    intro i M hi hz hO K
    obtain ⟨a1, a2, a3, a4⟩ := hz
    have hlt : i < R.2.2.length := by omega
    have hmem : R.2.2[i] ∈ R.2.2 := List.getElem_mem hlt
    have hb := hRok.2.2.2.2.2.2.1 _ hmem
    have hg : R.2.2[i]? = some R.2.2[i] := List.getElem?_eq_getElem hlt
    have hd : R.2.2.drop i = R.2.2[i] :: R.2.2.drop (i + 1) := List.drop_eq_getElem_cons hlt
    have e1 : ((i + 1 : Nat) : Int) = (i : Int) + 1 := by omega
    rw [hd, List.flatMap_cons] at K
    have av := a4 i _ hg
    refine s338_50 ?_
    rw [a3, av]
    refine ⟨⟨by omega, by omega⟩, ⟨⟨by omega, by omega⟩, ⟨by omega, by omega⟩⟩, fun h => by omega, fun _ => ⟨⟨by omega, by omega⟩, sp_sayMore hO (by omega) (by omega) (s338_74 ?_)⟩⟩
    have := ih (i + 1) (m_app M (32 :: dgs R.2.2[i])) (by omega) (mR_app ⟨a1, a2, a3, a4⟩) (m_ok_app hO) (by
      rw [m_app_app]
      exact K)
    rw [e1] at this
    exact this
/-- sayRule, by slot -/
theorem sp_sayRuleS {R : PR} {s : Int} (hs : 0 ≤ s ∧ s < 120) (hRok : pr_ok 9 R) (hz : mR M s R) (hO : m_ok M) (K : Q none (m_app M (tx R))) : wc kc (d + 4) 338 [jR 133, jI s] M Q := by
  have hk : 0 ≤ R.1 ∧ R.1 < 8 := ⟨hRok.1, hRok.2.1⟩
  have hpi := piK_in hk
  have hN := hasN_k hk
  have hz1 : ∀ cs, mR (m_app M cs) s R := fun cs => mR_app hz
  have k0 : ∀ cs, (m_app M cs) 150 s = piK.getD R.1.toNat 0 := fun cs => (hz1 cs).1
  have k1 : ∀ cs, (m_app M cs) 151 s = R.2.1 := fun cs => (hz1 cs).2.1
  have er : wls (wrd 1) = [114, 117, 108, 101] := by decide +kernel
  refine s338 (sp_word (by omega) (by omega) (s338_5 (sp_sayWord (wrd_ok (by omega) (by omega)) hO (s338_8 (sp_sayByte (m_ok_app hO) ?_)))))
  show wp kc (d + 4) 338 14 [some (jR 133), some (jI s), none] [] (m_app (m_app M _) [32]) Q
  rw [m_app_app, er]
  refine s338_14 ⟨hs, ?_⟩
  rw [k0]
  refine sp_word (by omega) (by omega) (s338_24 (sp_sayWord (wrd_ok (by omega) (by omega)) (m_ok_app hO) ?_))
  rw [m_app_app]
  refine s338_27 ?_
  rw [k0, k1]
  unfold tx tNm tCl at K
  refine ⟨hs, ⟨by omega, by omega⟩, fun hx => ?_, fun hx => ⟨hs, sp_sayMore (m_ok_app hO) hRok.2.2.1 (by have := hRok.2.2.2.1; omega) (s338_48 ?_)⟩⟩
  · rw [if_neg (fun h => by have := hN.mp h; omega)] at K
    refine msl_loop hs hRok R.2.2.length 0 _ (by omega) (hz1 _) (m_ok_app hO) ?_
    rw [m_app_app, List.drop_zero]
    simpa [knm] using K
  · rw [if_pos (hN.mpr hx)] at K
    rw [m_app_app]
    refine msl_loop hs hRok R.2.2.length 0 _ (by omega) (hz1 _) (m_ok_app hO) ?_
    rw [m_app_app, List.drop_zero]
    simpa [knm] using K
theorem csd_loop {A B : List Int} {a b : Int} (ha : 0 ≤ a ∧ a + A.length ≤ 6000) (hb : 0 ≤ b ∧ b + B.length ≤ 6000) (hA : ∀ i : Nat, i < A.length → M 136 (a + i) = A.getD i 0) (hB : ∀ i : Nat, i < B.length → M 136 (b + i) = B.getD i 0) (bA : ∀ c ∈ A, 0 ≤ c ∧ c ≤ 255) (bB : ∀ c ∈ B, 0 ≤ c ∧ c ≤ 255) : ∀ (t i : Nat), i + t = A.length → i ≤ B.length → Q (some (jI (cmpT (A.drop i) (B.drop i)))) M → wp kc (d + 1) 339 15 [some (jR 133), some (jI a), some (jI b), some (jI A.length), some (jI B.length), some (jI i)] [] M Q := by
  intro t
  induction t with
  | zero =>
    intro i hi hiB K
    rw [List.drop_eq_nil_of_le (show A.length ≤ i by omega), cmpT, List.length_drop, show (-((B.length - i : Nat) : Int)) = (A.length : Int) - B.length by omega] at K
    exact s339_15 ⟨⟨⟨by omega, by omega⟩, ⟨by omega, by omega⟩⟩, fun _ => K, fun h => by omega⟩
  | succ t ih =>
    intro i hi hiB K
    have hlt : i < A.length := by omega
    by_cases hB2 : i < B.length
    · have v1 := hA i hlt
      have v2 := hB i hB2
      rw [List.getD_eq_getElem?_getD, List.getElem?_eq_getElem hlt, Option.getD_some] at v1
      rw [List.getD_eq_getElem?_getD, List.getElem?_eq_getElem hB2, Option.getD_some] at v2
      have c1 := bA _ (List.getElem_mem hlt)
      have c2 := bB _ (List.getElem_mem hB2)
      rw [List.drop_eq_getElem_cons hlt, List.drop_eq_getElem_cons hB2, cmpT] at K
      refine s339_15 ?_
      rw [v1, v2]
      refine ⟨⟨⟨by omega, by omega⟩, ⟨by omega, by omega⟩⟩, fun h => by omega, fun _ => ⟨⟨⟨by omega, by omega⟩, ⟨by omega, by omega⟩⟩, fun h => by omega, fun _ => ⟨⟨by omega, by omega⟩, ⟨by omega, by omega⟩, ⟨⟨by omega, by omega⟩, ⟨by omega, by omega⟩⟩, fun heq => ?_, fun hne => ⟨⟨by omega, by omega⟩, ⟨by omega, by omega⟩, ?_⟩⟩⟩⟩
      · rw [if_pos heq] at K
        have := ih (i + 1) (by omega) (by omega) K
        rw [show ((i + 1 : Nat) : Int) = (i : Int) + 1 by omega] at this
        exact this
      · rw [if_neg hne] at K
        exact K
    · rw [List.drop_eq_getElem_cons hlt, List.drop_eq_nil_of_le (show B.length ≤ i by omega), cmpT, ← List.drop_eq_getElem_cons hlt, List.length_drop, show ((A.length - i : Nat) : Int) = (A.length : Int) - B.length by omega] at K
      exact s339_15 ⟨⟨⟨by omega, by omega⟩, ⟨by omega, by omega⟩⟩, fun h => by omega, fun _ => ⟨⟨⟨by omega, by omega⟩, ⟨by omega, by omega⟩⟩, fun _ => K, fun h => by omega⟩⟩
/-- compareSaid: two texts said one after the other -/
theorem sp_compareSaid {A B : List Int} (h0 : 0 ≤ M 133 5) (h6 : M 133 5 + A.length + B.length ≤ 6000) (bA : ∀ c ∈ A, 0 ≤ c ∧ c ≤ 255) (bB : ∀ c ∈ B, 0 ≤ c ∧ c ≤ 255) {a b : Int} (ha : a = M 133 5) (hb : b = M 133 5 + A.length) (K : Q (some (jI (cmpT A B))) (m_app M (A ++ B))) : wc kc (d + 1) 339 [jR 133, jI a, jI b] (m_app M (A ++ B)) Q := by
  have hl : (A ++ B).length = A.length + B.length := List.length_append
  refine s339 ?_
  rw [m_app_len (by omega), ha, hb, hl]
  have := csd_loop (kc := kc) (d := d) (Q := Q) (M := m_app M (A ++ B)) (A := A) (B := B) (a := M 133 5) (b := M 133 5 + A.length) (by omega) (by omega) (fun i hi => by
    rw [m_app_get (by omega) (by omega), List.getD_eq_getElem?_getD, List.getElem?_append_left hi, List.getD_eq_getElem?_getD]) (fun i hi => by
    rw [show M 133 5 + (A.length : Int) + (i : Int) = M 133 5 + ((A.length + i : Nat) : Int) by omega, m_app_get (by omega) (by omega), List.getD_eq_getElem?_getD, List.getElem?_append_right (by omega), List.getD_eq_getElem?_getD, Nat.add_sub_cancel_left]) bA bB A.length 0 (by omega) (by omega) K
  rw [show M 133 5 + (A.length : Int) - M 133 5 = A.length by omega, show M 133 5 + ((A.length + B.length : Nat) : Int) - (M 133 5 + A.length) = B.length by omega]
  exact this
/-- compareRules: two slots, by their texts; what stands behind the text said is other -/
theorem sp_compareRules {a b : PR} {s r : Int} (hs : 0 ≤ s ∧ s < 120) (hr : 0 ≤ r ∧ r < 120) (va : vR a) (vb : vR b) (hz : mR M s a) (hy : mR M r b) (h0 : 0 ≤ M 133 5) (h6 : M 133 5 + 42 ≤ 6000) (K : ∀ M' x, (∀ b j, ¬ (b = 136 ∧ M 133 5 ≤ j) → M' b j = M b j) → fx_in32 x → (kyR a < kyR b → x < 0) → (kyR a = kyR b → x = 0) → (kyR b < kyR a → 0 < x) → Q (some (jI x)) M') : wc kc (d + 5) 337 [jR 133, jI s, jI r] M Q := by
  have b1 := tx_b va.1
  have b2 := tx_b vb.1
  have hO : m_ok M := ⟨h0, by omega⟩
  have hl : (tx a ++ tx b).length = (tx a).length + (tx b).length := List.length_append
  have cb : ∀ {A B : List Int}, (∀ c ∈ A, 0 ≤ c ∧ c ≤ 255) → (∀ c ∈ B, 0 ≤ c ∧ c ≤ 255) → A.length ≤ 6000 → B.length ≤ 6000 → -6000 ≤ cmpT A B ∧ cmpT A B ≤ 6000 := by
    intro A
    induction A with
    | nil =>
      intro B _ _ _ hB
      rw [cmpT]
      omega
    | cons x A ih =>
      intro B hA hB lA lB
      cases B with
      | nil =>
        rw [cmpT]
        omega
      | cons y B =>
        rw [cmpT]
        rw [List.length_cons] at lA lB
        by_cases e : x = y
        · rw [if_pos e]
          exact ih (fun c hc => hA c (List.mem_cons_of_mem _ hc)) (fun c hc => hB c (List.mem_cons_of_mem _ hc)) (by omega) (by omega)
        · rw [if_neg e]
          have := hA x (List.mem_cons_self ..)
          have := hB y (List.mem_cons_self ..)
          omega
  have cx := cb b1.2 b2.2 (by omega) (by omega)
  refine s337 (sp_sayRuleS hs va.1 hz hO (s337_10 (sp_sayRuleS hr vb.1 (mR_app hy) (m_ok_app hO) ?_)))
  rw [m_app_app]
  refine s337_21 (sp_compareSaid (d := d + 3) h0 (by omega) b1.2 b2.2 rfl (m_app_len (by omega)) (s337_28 ?_))
  have k := cmpT_ky va vb
  refine K _ _ (fun b j hb => ?_) ⟨by omega, by omega⟩ k.1 k.2.1 k.2.2
  by_cases e : b = 133 ∧ j = 5
  · rw [e.1, e.2, fx_up_self]
  · rw [fx_up_ne e]
    by_cases e2 : b = 136
    · rw [e2, m_app_lo (by omega)]
    · exact m_app_ne e e2
end MSD
