/-! The text of a verdict; the class's. -/
/-- lines of answers that were told before are the same -/
def samF (Z : PZ) (q r : List LT) : Prop := ∀ c, c < 10 → ltM Z false q c = ltM Z false r c
def lnA (A : List LN) (i : Nat) : LN := A.getD i (0, 0, 0, [])
theorem lnA_of {A : List LN} {i : Nat} {x : LN} (h : A[i]? = some x) : lnA A i = x := by
  unfold lnA
  rw [List.getD_eq_getElem?_getD, h, Option.getD_some]
/-- the first line of an answer -/
def frs (Z : PZ) (A : List LN) (i : Nat) : Prop := (lnA A i).1 = 4 ∧ ∀ j, j < i → (lnA A j).1 = 4 → ¬ samF Z (lnA A j).2.2.2 (lnA A i).2.2.2
noncomputable def nFi (Z : PZ) (A : List LN) : Nat → Nat
  | 0 => 0
  | n + 1 => nFi Z A n + @ite _ (frs Z A n) (Classical.propDecidable _) 1 0
theorem nFi_le {Z : PZ} {A : List LN} : ∀ n, nFi Z A n ≤ n
  | 0 => Nat.le_refl _
  | n + 1 => by
    have := nFi_le (Z := Z) (A := A) n
    rw [nFi]
    by_cases h : frs Z A n
    · rw [if_pos h]
      omega
    · rw [if_neg h]
      omega
noncomputable def tCkE (Z : PZ) (A : List LN) : List Int := @ite _ ((lnA A (A.length - 1)).1 = 3 ∧ (lnA A (A.length - 1)).2.2.2 = []) (Classical.propDecidable _) (wls 482956242790 ++ 32 :: dgs (nFi Z A A.length : Int)) (wls (wrd 38))
/-- the verdict, t lines left -/
noncomputable def tCk (Z : PZ) (A : List LN) : Nat → Nat → List Int
  | 0, _ => tCkE Z A
  | t + 1, i => @ite _ (rgt Z (ptL A i) (lnA A i)) (Classical.propDecidable _) (tCk Z A t (i + 1)) (wls 1818848869 ++ 32 :: dgs (i : Int))
noncomputable def tCheck (Z : PZ) (A : List LN) : List Int := tCk Z A A.length 0
section CVE
variable {L : Nat} {xs : Nat → Int32} {d : Nat} {Q : Option fx_V → fx_M → Prop} {Z : PZ} {M : fx_M} {A : List LN}
theorem sam_iff {i j : Int} {q r : List LT} (hq : sta (M 39 i) (ltM Z false q)) (hr : sta (M 39 j) (ltM Z false r)) (h16 : ∀ c, ltM Z false q c < 16) (h16' : ∀ c, ltM Z false r c < 16) : M 39 i = M 39 j ↔ samF Z q r := by
  constructor
  · intro e c hc
    refine ext4 (h16 c) (h16' c) (fun y hy => ?_)
    have b1 := hq.2 (4 * c + y) (by omega)
    have b2 := hr.2 (4 * c + y) (by omega)
    rw [e] at b1
    rw [b1, show (4 * c + y) / 4 = c by omega, show (4 * c + y) % 4 = y by omega, show decide (4 * c + y < 40) = true from decide_eq_true (by omega), Bool.true_and, Bool.true_and] at b2
    exact b2
  · intro h
    exact sta_inj (sta_ext hq h) hr
/-- all lines are right so far -/
abbrev allR (Z : PZ) (A : List LN) (n : Nat) : Prop := ∀ j, j < n → rgt Z (ptL A j) (lnA A j)
theorem kind_eq (ho : pz_ok Z) (hA : cLnS Z M A) {i : Nat} {x : LN} (hx : A[i]? = some x) (hr : rgt Z (ptL A i) x) : M 35 (i : Int) = x.1 := (hA.2 i x hx).2.2.2.1 hr.1
theorem sp_firstTold (ho : pz_ok Z) (hA : cLnS Z M A) (hAl : A.length ≤ 1600) (hK : ∀ x ∈ A, lnK x) (hR : allR Z A A.length) {i : Nat} (hi : i < A.length) (h4 : (lnA A i).1 = 4) (K1 : frs Z A i → Q (some (jI 1)) M) (K0 : ¬ frs Z A i → Q (some (jI 0)) M) : wc (kcs L xs) (d + 1) 133 [jR 34, jI i] M Q := by
  have hxi := List.getElem?_eq_getElem hi
  have ei := lnA_of hxi
  have g16 : ∀ (j : Nat) (hj : j < A.length) (c : Nat), ltM Z false A[j].2.2.2 c < 16 := fun j hj c => ltM_16 ho (hK _ (List.getElem_mem hj)).2.2.2.2.2.2
  refine s133 ?_
  have z : ∀ (t j : Nat), j + t = i → (∀ k, k < j → (lnA A k).1 = 4 → ¬ samF Z (lnA A k).2.2.2 (lnA A i).2.2.2) → wp (kcs L xs) (d + 1) 133 2 [some (jR 34), some (jI i), some (jI j)] [] M Q := by
    intro t
    induction t with
    | zero =>
      intro j hj hn
      exact s133_2 ⟨⟨⟨by omega, by omega⟩, ⟨by omega, by omega⟩⟩, fun _ => K1 ⟨h4, fun k hk => hn k (by omega)⟩, fun h => by omega⟩
    | succ t ih =>
      intro j hj hn
      have hjl : j < A.length := by omega
      have hxj := List.getElem?_eq_getElem hjl
      have ejx := lnA_of hxj
      have hrj := hR j hjl
      rw [ejx] at hrj
      have ek := kind_eq ho hA hxj hrj
      have kj := hK _ (List.getElem_mem hjl)
      have sm := sam_iff (cln_good (hA.2 j _ hxj)).2 (cln_good (hA.2 i _ hxi)).2 (g16 j hjl) (g16 i hi)
      have go : ((lnA A j).1 = 4 → ¬ samF Z (lnA A j).2.2.2 (lnA A i).2.2.2) → wp (kcs L xs) (d + 1) 133 2 [some (jR 34), some (jI i), some (jI ((j : Int) + 1))] [] M Q := fun h => by
        have nx := ih (j + 1) (by omega) (fun k hk => by
          by_cases e : k = j
          · subst e
            exact h
          · exact hn k (by omega))
        rw [show ((j + 1 : Nat) : Int) = (j : Int) + 1 by omega] at nx
        exact nx
      have k1 := kj.1
      have k2 := kj.2.1
      refine s133_2 ?_
      rw [ek]
      refine ⟨⟨⟨by omega, by omega⟩, ⟨by omega, by omega⟩⟩, fun h => by omega, fun _ => ⟨⟨by omega, by omega⟩, ⟨by omega, by omega⟩, fun hne => go (fun h => by rw [ejx] at h; exact absurd h hne), fun he => ⟨⟨by omega, by omega⟩, ⟨by omega, by omega⟩, ⟨(cln_good (hA.2 j _ hxj)).2.1, (cln_good (hA.2 i _ hxi)).2.1⟩, fun hne => go (fun _ h => hne (cmp_0.mpr (sm.mpr (by rw [ejx, ei] at h; exact h)))), fun h0 => K0 (fun hf => hf.2 j (by omega) (by rw [ejx]; exact he) (by rw [ejx, ei]; exact sm.mp (cmp_0.mp h0)))⟩⟩⟩
  exact z i 0 (by omega) (fun k hk => by omega)
theorem sp_fillings (ho : pz_ok Z) (hA : cLnS Z M A) (hAl : A.length ≤ 1600) (hK : ∀ x ∈ A, lnK x) (hR : allR Z A A.length) (K : Q (some (jI (nFi Z A A.length : Nat))) M) : wc (kcs L xs) (d + 2) 132 [jR 34] M Q := by
  refine s132 ?_
  have z : ∀ (t i : Nat), i + t = A.length → wp (kcs L xs) (d + 2) 132 4 [some (jR 34), some (jI (nFi Z A i : Nat)), some (jI i)] [] M Q := by
    intro t
    induction t with
    | zero =>
      intro i hi
      have e : i = A.length := by omega
      subst e
      refine s132_4 ?_
      rw [hA.1]
      exact ⟨⟨⟨by omega, by omega⟩, ⟨by omega, by omega⟩⟩, fun _ => K, fun h => by omega⟩
    | succ t ih =>
      intro i hi
      have hil : i < A.length := by omega
      have hx := List.getElem?_eq_getElem hil
      have ex := lnA_of hx
      have hr := hR i hil
      rw [ex] at hr
      have ek := kind_eq ho hA hx hr
      have kk := hK _ (List.getElem_mem hil)
      have hle := nFi_le (Z := Z) (A := A) i
      have nx := ih (i + 1) (by omega)
      rw [show ((i + 1 : Nat) : Int) = (i : Int) + 1 by omega, nFi] at nx
      have k1 := kk.1
      have k2 := kk.2.1
      refine s132_4 ?_
      rw [hA.1, ek]
      refine ⟨⟨⟨by omega, by omega⟩, ⟨by omega, by omega⟩⟩, fun h => by omega, fun _ => ⟨⟨by omega, by omega⟩, ⟨by omega, by omega⟩, fun hne => ?_, fun he => sp_firstTold (d := d) ho hA hAl hK hR hil (by rw [ex]; exact he) (fun hf => s132_28 ⟨⟨by omega, by omega⟩, ?_⟩) (fun hf => s132_28 ⟨⟨by omega, by omega⟩, ?_⟩)⟩⟩
      · rw [if_neg (fun h => hne (by have := h.1; rw [ex] at this; exact this))] at nx
        exact nx
      · rw [if_pos hf] at nx
        rw [if_neg (by decide), show ((nFi Z A i : Nat) : Int) + 1 = ((nFi Z A i + 1 : Nat) : Int) by omega]
        exact nx
      · rw [if_neg hf] at nx
        rw [if_pos rfl, show ((nFi Z A i : Nat) : Int) + 0 = ((nFi Z A i + 0 : Nat) : Int) by omega]
        exact nx
  exact z A.length 0 (by omega)
theorem lits_0 (ho : pz_ok Z) {i : Nat} {x : LN} (hA : cLnS Z M A) (hx : A[i]? = some x) (hg : ltg Z x.2.2.2) : fx_lor (M 38 i) (M 39 i) = 0 ↔ x.2.2.2 = [] := by
  have h9 := pz_n ho
  obtain ⟨hp, hm⟩ := cln_good (hA.2 i x hx)
  constructor
  · intro h
    cases hq : x.2.2.2 with
    | nil => rfl
    | cons z r =>
      exfalso
      have hz : z ∈ x.2.2.2 := by rw [hq]; exact List.mem_cons_self ..
      obtain ⟨b1, b2, b3, b4, b5, b6, b7⟩ := lt_b ho hg hz
      have e1 : lbit (fx_lor (M 38 i) (M 39 i)) (4 * z.2.1.toNat + z.2.2.toNat) = true := by
        rw [lbit_lor, hp.2 _ (by omega), hm.2 _ (by omega), show (4 * z.2.1.toNat + z.2.2.toNat) / 4 = z.2.1.toNat by omega, show (4 * z.2.1.toNat + z.2.2.toNat) % 4 = z.2.2.toNat by omega, show decide (4 * z.2.1.toNat + z.2.2.toNat < 40) = true from decide_eq_true (by omega), Bool.true_and, Bool.true_and, Bool.or_eq_true]
        by_cases h0 : z.1 = 0
        · exact Or.inl (ltM_bit.mpr ⟨z, hz, decide_eq_true h0, ltg_lin hg z hz, b3.symm, rfl⟩)
        · exact Or.inr (ltM_bit.mpr ⟨z, hz, decide_eq_false h0, ltg_lin hg z hz, b3.symm, rfl⟩)
      rw [h, lbit_0] at e1
      cases e1
  · intro h
    rw [h] at hp hm
    have e1 : M 38 i = 0 := sta_inj hp sta_z
    have e2 : M 39 i = 0 := sta_inj hm sta_z
    rw [e1, e2]
    decide +kernel
theorem vd_lp (ho : pz_ok Z) (hc : ckn M 11 Z) (hf : sta (M 34 8) (s_free Z)) (hA : cLnS Z M A) (hAl : A.length ≤ 1600) (hA1 : 1 ≤ A.length) (hK : ∀ x ∈ A, lnK x) (hO : o_ok M 3) : ∀ (t i : Nat), i + t = A.length → allR Z A i → Q none (o_app M 3 (tCk Z A t i)) → wp (kcs L xs) (d + 15) 120 13 [some (jR 34), some (jI i)] [] M Q := by
  intro t
  induction t with
  | zero =>
    intro i hi hR K
    have e : i = A.length := by omega
    subst e
    have hl : A.length - 1 < A.length := by omega
    have hx := List.getElem?_eq_getElem hl
    have ex := lnA_of hx
    have hr := hR (A.length - 1) hl
    rw [ex] at hr
    have ek := kind_eq ho hA hx hr
    have kk := hK _ (List.getElem_mem hl)
    have hgx : ltg Z A[A.length - 1].2.2.2 := ⟨kk.2.2.2.2.2.2, hr.1⟩
    have l0 := lits_0 ho hA hx hgx
    have hn1 := nFi_le (Z := Z) (A := A) A.length
    have eL : (if (A.length : Int) - 1 < 0 then (0 : Int) else (A.length : Int) - 1) = ((A.length - 1 : Nat) : Int) := by
      rw [if_neg (by omega)]
      omega
    have k1 := kk.1
    have k2 := kk.2.1
    rw [tCk] at K
    unfold tCkE at K
    rw [ex] at K
    have opn1 : ¬ (A[A.length - 1].1 = 3 ∧ A[A.length - 1].2.2.2 = []) → wc (kcs L xs) (d + 14) 64 [jR 3, jR 1000089] M (fun v M1 => wp (kcs L xs) (d + 15) 120 101 [none, none] (v.toList ++ []) M1 Q) := fun hn => by
      rw [if_neg hn] at K
      refine sp_puts (d := d + 10) out3 lt_1000089 hO (s120_101 ?_)
      rw [show ([111, 112, 101, 110] : List Int32).map Int32.toInt = wls (wrd 38) by decide +kernel]
      exact K
    refine s120_13 ?_
    rw [hA.1, eL, ek]
    refine ⟨⟨⟨by omega, by omega⟩, ⟨by omega, by omega⟩⟩, fun _ => ⟨⟨by omega, by omega⟩, ⟨by omega, by omega⟩, ⟨by omega, by omega⟩, fun hne => opn1 (fun h => hne h.1), fun he => ⟨⟨by omega, by omega⟩, ⟨by omega, by omega⟩, in64_lor _ _, fun h0 => ?_, fun h0 => opn1 (fun h => h0 (cmp_0.mpr (l0.mpr h.2)))⟩⟩, fun h => by omega⟩
    rw [if_pos ⟨he, l0.mp (cmp_0.mp h0)⟩] at K
    refine sp_puts (d := d + 10) out3 lt_1000091 hO (s120_111 ?_)
    have fo : ∀ b j, ¬ (b = 3 ∧ j = 1) → b ≠ 4 → (o_app M 3 (([112, 114, 111, 111, 102, 32] : List Int32).map Int32.toInt)) b j = M b j := fun b j h1 h2 => o_app_n3 h1 h2
    have hA' : cLnS Z (o_app M 3 (([112, 114, 111, 111, 102, 32] : List Int32).map Int32.toInt)) A := ⟨by rw [fo _ _ (by omega) (by decide)]; exact hA.1, fun j y hy => cln_fr (hA.2 j y hy) (fun b h1 h2 => fo _ _ (by omega) (by omega))⟩
    refine sp_fillings (d := d + 12) ho hA' hAl hK hR (s120_119 (sp_number (d := d + 13) out3 (o_ok_app hO) (by omega) (by omega) (s120_122 ?_)))
    rw [o_app_app, show ([112, 114, 111, 111, 102, 32] : List Int32).map Int32.toInt = wls 482956242790 ++ [32] by decide +kernel]
    simpa using K
  | succ t ih =>
    intro i hi hR K
    have hil : i < A.length := by omega
    have hx := List.getElem?_eq_getElem hil
    have ex := lnA_of hx
    have kk := hK _ (List.getElem_mem hil)
    rw [tCk, ex] at K
    refine s120_13 ?_
    rw [hA.1]
    refine ⟨⟨⟨by omega, by omega⟩, ⟨by omega, by omega⟩⟩, fun h => by omega, fun _ => sp_isRight (d := d) ho hc hf hA hAl hx kk (fun j y hj hy => ?_) (fun hr => s120_26 ⟨⟨by omega, by omega⟩, fun _ => ?_, fun h => by omega⟩) (fun hr => s120_26 ⟨⟨by omega, by omega⟩, fun h => absurd rfl h, fun _ => ?_⟩)⟩
    · have hrj := hR j hj
      rw [lnA_of hy] at hrj
      obtain ⟨hjl, ey⟩ := List.getElem?_eq_some_iff.mp hy
      exact ⟨(hK y (ey ▸ List.getElem_mem hjl)).2.2.2.2.2.2, hrj.1⟩
    · rw [if_pos hr] at K
      have nx := ih (i + 1) (by omega) (fun j hj => by
        by_cases e : j = i
        · subst e
          rw [ex]
          exact hr
        · exact hR j (by omega)) K
      rw [show ((i + 1 : Nat) : Int) = (i : Int) + 1 by omega] at nx
      exact nx
    · rw [if_neg hr] at K
      refine sp_puts (d := d + 10) out3 lt_1000087 hO (s120_38 (sp_number (d := d + 13) out3 (o_ok_app hO) (by omega) (by omega) (s120_46 ?_)))
      rw [o_app_app, show ([108, 105, 110, 101, 32] : List Int32).map Int32.toInt = wls 1818848869 ++ [32] by decide +kernel]
      simpa using K
theorem sp_verdict {M : fx_M} (ho : pz_ok Z) (hc : ckn M 11 Z) (hA : cLnS Z M A) (hAl : A.length ≤ 1600) (hA1 : 1 ≤ A.length) (hK : ∀ x ∈ A, lnK x) (hO : o_ok M 3) (K : ∀ M', cwr M M' (tCheck Z A) → Q none M') : wc (kcs L xs) (d + 15) 120 [jR 34] M Q := by
  refine s120 (sp_free (d := d + 13) puz11 hc.1 ho (fun y hy => s120_8 ?_))
  have hq := cwr_up (M := M) (a := 34) (k := 8) (v := y) (by unfold csc; omega)
  have hA' : cLnS Z (fx_up M 34 8 y) A := ⟨by rw [fx_up_nk (by decide)]; exact hA.1, fun j x hx => cln_fr (hA.2 j x hx) (fun b h1 h2 => fx_up_na (by omega))⟩
  refine vd_lp ho (ckn_cwr hc hq) (by rw [fx_up_self]; exact hy) hA' hAl hA1 hK (cwr_ok hq hO) A.length 0 (by omega) (fun j hj => by omega) (K _ ?_)
  have := cwr_tr hq (cwr_app (cs := tCk Z A A.length 0))
  rw [List.nil_append] at this
  exact this
end CVE
