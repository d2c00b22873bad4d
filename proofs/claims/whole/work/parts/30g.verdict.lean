/-! The class's verdict. -/
/-- a line as it was read -/
def lnK (x : LN) : Prop := 0 ≤ x.1 ∧ x.1 ≤ 4 ∧ 0 ≤ x.2.1 ∧ x.2.1 < 1000 ∧ 0 ≤ x.2.2.1 ∧ x.2.2.1 < 1000 ∧ lts x.2.2.2
def ptL (A : List LN) (i : Nat) : List (List LT) := (A.take i).map fun x => x.2.2.2
theorem ptL_drop {A : List LN} {i j : Nat} (hj : j < i) {x : LN} (hx : A[j]? = some x) : (ptL A i).drop j = x.2.2.2 :: (ptL A i).drop (j + 1) := by
  obtain ⟨hl, e⟩ := List.getElem?_eq_some_iff.mp hx
  have hlt : j < (A.take i).length := by rw [List.length_take]; omega
  unfold ptL
  rw [← List.map_drop, ← List.map_drop, List.drop_eq_getElem_cons hlt, List.getElem_take, e, List.map_cons]
theorem ptL_all {A : List LN} {i : Nat} : (ptL A i).drop i = [] := List.drop_eq_nil_of_le (by
  unfold ptL
  rw [List.length_map, List.length_take]
  omega)
/-- lines by their kinds -/
def gvL (Z : PZ) (x : LN) : Prop := x.2.1 < Z.1 * Z.2.1 ∧ 0 ≤ Z.2.2.2.2.getD x.2.1.toNat (-1) ∧ (ltM Z true x.2.2.2 x.2.1.toNat).testBit (Z.2.2.2.2.getD x.2.1.toNat (-1)).toNat = true
def noW (Z : PZ) (q : List LT) (R : PR) (s : Option PR) : Prop := ¬ ∃ f, fit (dnS Z q) (jnC R s) f ∧ okf Z R s f
def ruL (Z : PZ) (x : LN) : Prop := ∃ R, Z.2.2.2.1[x.2.1.toNat]? = some R ∧ noW Z x.2.2.2 R none
def twL (Z : PZ) (x : LN) : Prop := x.2.1 < x.2.2.1 ∧ ∃ R R2, Z.2.2.2.1[x.2.1.toNat]? = some R ∧ Z.2.2.2.1[x.2.2.1.toNat]? = some R2 ∧ (jnC R (some R2)).length ≤ 6 ∧ noW Z x.2.2.2 R (some R2)
def unL (Z : PZ) (P : List (List LT)) (x : LN) : Prop := brk Z (dnS Z x.2.2.2) ∨ uRn P 40 (dnS Z x.2.2.2) = true
def fiL (Z : PZ) (x : LN) : Prop := (∀ z ∈ x.2.2.2, z.1 ≠ 0) ∧ ∃ y : List Int, y.length = (Z.1 * Z.2.1).toNat ∧ (∀ c : Nat, c < y.length → 0 ≤ y.getD c 0 ∧ y.getD c 0 < Z.2.2.1 ∧ ltM Z false x.2.2.2 c = 2 ^ (y.getD c 0).toNat) ∧ okx Z y = true
/-- a line is right -/
def rgt (Z : PZ) (P : List (List LT)) (x : LN) : Prop := ¬ flw Z x.2.2.2 ∧ (x.1 = 0 → gvL Z x) ∧ (x.1 = 1 → ruL Z x) ∧ (x.1 = 2 → twL Z x) ∧ (x.1 = 3 → unL Z P x) ∧ (x.1 = 4 → fiL Z x)
section CVD
variable {L : Nat} {xs : Nat → Int32} {d : Nat} {Q : Option fx_V → fx_M → Prop} {Z : PZ} {M : fx_M} {A : List LN}
theorem cln_good {i k f g : Int} {q : List LT} (h : cln Z M i k f g q) : sta (M 38 i) (ltM Z true q) ∧ sta (M 39 i) (ltM Z false q) := ⟨h.2.2.2.2.1, h.2.2.2.2.2⟩
theorem up_lp (ho : pz_ok Z) (hA : cLnS Z M A) (hAl : A.length ≤ 1600) {i : Nat} (hi : i ≤ A.length) (hg : ∀ (j : Nat) (y : LN), j < i → A[j]? = some y → ltg Z y.2.2.2) {r6 v7 : Int} : ∀ (t j : Nat) (S : Nat → Nat) (v al : Int), j + t = i → s_go Z S → sta v S → sta al (s_al S) → ((uPs ((ptL A i).drop j) S).1 = true → Q (some (jI 1)) M) → ((uPs ((ptL A i).drop j) S).1 = false → ∀ v' al', sta v' (uPs ((ptL A i).drop j) S).2.1 → sta al' (s_al (uPs ((ptL A i).drop j) S).2.1) → wp (kcs L xs) (d + 3) 126 37 [some (jR 34), some (jI i), some (jL v'), none, some (jL al'), none, some (jI r6), some (jL v7), none, some (jI i), none, none, none, none, none] [] M Q) → wp (kcs L xs) (d + 3) 126 37 [some (jR 34), some (jI i), some (jL v), none, some (jL al), none, some (jI r6), some (jL v7), none, some (jI j), none, none, none, none, none] [] M Q := by
  intro t
  induction t with
  | zero =>
    intro j S v al hj hs hv ha K1 K2
    have e : j = i := by omega
    subst e
    rw [ptL_all] at K2
    exact K2 rfl v al hv ha
  | succ t ih =>
    intro j S v al hj hs hv ha K1 K2
    have hjl : j < A.length := by omega
    have hx := List.getElem?_eq_getElem hjl
    have hq := hg j _ (by omega) hx
    obtain ⟨hp, hm⟩ := cln_good (hA.2 j _ hx)
    have h16 := s10 ho hs.1
    have hso := so_iff ho hs hq hp hm hv ha
    rw [ptL_drop (by omega) hx] at K1 K2
    have hB : (0 : Int) ≤ (j : Int) ∧ (j : Int) < 1600 := by omega
    have ej : ((j + 1 : Nat) : Int) = (j : Int) + 1 := by omega
    have oP := sta_oPs (S := S) hp hv
    have oM := sta_oMs hm ha
    have cP := lct_eq oP (fun c _ => oPs_lt ho hq.1)
    have cM := lct_eq oM (fun c _ => oMs_lt)
    have bP := pS_le (S := oPs Z S A[j].2.2.2) 10
    have bM := pS_le (S := oMs Z S A[j].2.2.2) 10
    have skip : (unt S A[j].2.2.2) = (0, S) → wp (kcs L xs) (d + 3) 126 37 [some (jR 34), some (jI i), some (jL v), none, some (jL al), none, some (jI r6), some (jL v7), none, some (jI ((j : Int) + 1)), none, none, none, none, none] [] M Q := fun e => by
      have eu : uPs (A[j].2.2.2 :: (ptL A i).drop (j + 1)) S = uPs ((ptL A i).drop (j + 1)) S := by
        rw [uPs, e]
        rfl
      rw [eu] at K1 K2
      have nx := ih (j + 1) S v al (by omega) hs hv ha K1 K2
      rw [ej] at nx
      exact nx
    have made : ∀ (x : LT) (w : Int), (unt S A[j].2.2.2) = (1, mkT S x) → sta w (mkT S x) → ∀ al', sta al' (s_al (mkT S x)) → wp (kcs L xs) (d + 3) 126 37 [some (jR 34), some (jI i), some (jL w), none, some (jL al'), none, some (jI r6), some (jL v7), none, some (jI ((j : Int) + 1)), none, none, none, none, none] [] M Q := fun x w e hw al' ha' => by
      have hs' := (unt_ok ho hs hq).1
      rw [e] at hs'
      have eu : uPs (A[j].2.2.2 :: (ptL A i).drop (j + 1)) S = ((uPs ((ptL A i).drop (j + 1)) (mkT S x)).1, (uPs ((ptL A i).drop (j + 1)) (mkT S x)).2.1, true) := by
        rw [uPs, e]
        rfl
      rw [eu] at K1 K2
      have nx := ih (j + 1) (mkT S x) w al' (by omega) hs' hw ha' K1 K2
      rw [ej] at nx
      exact nx
    refine s126_37 ⟨⟨⟨by omega, by omega⟩, ⟨by omega, by omega⟩⟩, fun h => by omega, fun _ => ⟨hB, hB, in64_lor _ _, fun hne => skip ?_, fun he => ⟨hB, hB, sp_lct (d := d + 1) (s126_104 (sp_lct (d := d + 1) (s126_109 ?_)))⟩⟩⟩
    · rcases unt_cases (S := S) (q := A[j].2.2.2) with ⟨e, _⟩ | ⟨_, h1, _⟩ | ⟨_, _, h1, _⟩
      · exact e
      · exact absurd (cmp_0.mpr (hso.mpr h1)) hne
      · exact absurd (cmp_0.mpr (hso.mpr h1)) hne
    · have hn := hso.mp (cmp_0.mp he)
      rw [cP, cM]
      rcases unt_cases (S := S) (q := A[j].2.2.2) with ⟨e, ⟨x, h1, h2⟩ | ⟨x, z, r, h1⟩⟩ | ⟨e, _, h1⟩ | ⟨x, e, _, h1⟩
      · exact absurd h2 (hn x h1)
      · have c2 := cnt_2 ho hs hq hn h1
        exact ⟨⟨by omega, by omega⟩, fun _ => ⟨⟨by omega, by omega⟩, fun _ => skip e, fun h => by omega⟩, fun h => by omega⟩
      · have c0 := cnt_0 ho hs hq hn h1
        refine ⟨⟨by omega, by omega⟩, fun h => by omega, fun _ => K1 ?_⟩
        rw [uPs, e]
        rfl
      · have c1 := cnt_1 ho hs hq hn h1
        have hxo : x ∈ opnL S A[j].2.2.2 := by rw [h1]; exact List.mem_singleton.mpr rfl
        obtain ⟨m1, m2⟩ := opnL_mem hxo
        obtain ⟨b1, b2, b3, b4, b5, b6, b7⟩ := lt_b ho hq m1
        have hs' := (unt_ok ho hs hq).1
        rw [e] at hs'
        have p1 := pS_1 ⟨x.2.1.toNat, by omega⟩ ⟨x.2.2.toNat, b5⟩
        simp only at p1
        have st1 := sta_one (c := x.2.1.toNat) (y := x.2.2.toNat) (by omega) b5
        by_cases hx0 : x.1 = 0
        · have cc := c1.1 hx0
          have n1 : pS (oPs Z S A[j].2.2.2) 10 = 1 := by rw [pS_cg 10 cc.1]; exact p1
          have n2 : pS (oMs Z S A[j].2.2.2) 10 = 0 := pS_0 cc.2
          have eb : fx_land (M 38 j) v = fx_lshl 1 (4 * (x.2.1.toNat : Int) + (x.2.2.toNat : Int)) := sta_inj (sta_ext oP cc.1) st1
          have hne0 : fx_land (M 38 j) v ≠ 0 := fun e0 => by
            rw [e0] at cP
            have : lct 0 = 0 := by decide +kernel
            omega
          rw [n1, n2]
          refine ⟨⟨by omega, by omega⟩, fun _ => ⟨⟨by omega, by omega⟩, fun h => by omega, fun _ => ⟨in64_land _ _, fun h0 => absurd (cmp_0.mp h0) hne0, fun _ => sp_made (d := d) b2 b5 hv eb (fun w hw => s126_139 ?_)⟩⟩, fun h => by omega⟩
          have hw' : sta w (mkT S x) := by
            unfold mkT
            rw [if_pos hx0]
            exact hw
          exact sp_settled (d := d + 1) hw' (s10 ho hs'.1) hs'.2 (fun al' ha' => s126_155 (made x w e hw' al' ha'))
        · have cc := c1.2 hx0
          have n1 : pS (oMs Z S A[j].2.2.2) 10 = 1 := by rw [pS_cg 10 cc.1]; exact p1
          have n2 : pS (oPs Z S A[j].2.2.2) 10 = 0 := pS_0 cc.2
          have eb : fx_land (M 39 j) (fx_lxor al (-1)) = fx_lshl 1 (4 * (x.2.1.toNat : Int) + (x.2.2.toNat : Int)) := sta_inj (sta_ext oM cc.1) st1
          have hz0 : fx_land (M 38 j) v = 0 := sta_inj (sta_ext oP cc.2) sta_z
          have hw' : sta (fx_land v (fx_lxor (fx_land (M 39 j) (fx_lxor al (-1))) (-1))) (mkT S x) := by
            rw [eb]
            unfold mkT
            rw [if_neg hx0]
            have := sta_wo hv (c := (x.2.1.toNat : Int)) (s := (x.2.2.toNat : Int)) ⟨by omega, by omega⟩ ⟨by omega, by omega⟩
            rw [Int.toNat_natCast, Int.toNat_natCast] at this
            exact this
          rw [n1, n2]
          exact ⟨⟨by omega, by omega⟩, fun _ => ⟨⟨by omega, by omega⟩, fun h => by omega, fun _ => ⟨in64_land _ _, fun _ => sp_settled (d := d + 1) hw' (s10 ho hs'.1) hs'.2 (fun al' ha' => s126_155 (made x _ e hw' al' ha')), fun h => absurd (cmp_0.mpr hz0) h⟩⟩, fun h => by omega⟩
theorem un_lp (ho : pz_ok Z) (hA : cLnS Z M A) (hAl : A.length ≤ 1600) {i : Nat} (hi : i ≤ A.length) (hg : ∀ (j : Nat) (y : LN), j < i → A[j]? = some y → ltg Z y.2.2.2) : ∀ (f r : Nat) (S : Nat → Nat) (v al : Int), r + f = 40 → pS S 10 < f → s_go Z S → sta v S → sta al (s_al S) → (uRn (ptL A i) f S = true → Q (some (jI 1)) M) → (uRn (ptL A i) f S = false → Q (some (jI 0)) M) → wp (kcs L xs) (d + 3) 126 24 [some (jR 34), some (jI i), some (jL v), none, some (jL al), none, some (jI r), none, none, none, none, none, none, none, none] [] M Q := by
  intro f
  induction f with
  | zero =>
    intro r S v al _ h
    omega
  | succ f ih =>
    intro r S v al hr hp hs hv ha K1 K0
    have hP : ∀ q ∈ ptL A i, ltg Z q := fun q hq => by
      unfold ptL at hq
      obtain ⟨x, hx, rfl⟩ := List.mem_map.mp hq
      obtain ⟨j, hj, e⟩ := List.mem_iff_getElem.mp hx
      rw [List.length_take] at hj
      rw [List.getElem_take] at e
      exact hg j x (by omega) (by rw [List.getElem?_eq_getElem (by omega), e])
    have u := uPs_ok ho hs hP
    rw [uRn] at K1 K0
    refine s126_24 ⟨⟨by omega, by omega⟩, fun h => by omega, fun _ => up_lp ho hA hAl hi hg i 0 S v al (by omega) hs hv ha (fun h1 => K1 ?_) (fun h1 v' al' hv' ha' => ?_)⟩
    · rw [List.drop_zero] at h1
      rw [if_pos h1]
    · rw [List.drop_zero] at h1 hv' ha'
      rw [if_neg (by rw [h1]; decide)] at K1 K0
      refine s126_37 ⟨⟨⟨by omega, by omega⟩, ⟨by omega, by omega⟩⟩, fun _ => ⟨⟨hv'.1, hv.1⟩, fun hne => ?_, fun he => ?_⟩, fun h => by omega⟩
      · have hc : (uPs (ptL A i) S).2.2 = true := by
          by_cases hc : (uPs (ptL A i) S).2.2 = true
          · exact hc
          · simp only [Bool.not_eq_true] at hc
            rw [u.2.2.2 hc] at hv'
            exact absurd (cmp_0.mpr (sta_inj hv' hv)) hne
        rw [if_pos hc] at K1 K0
        have h3 := u.2.2.1 hc
        have nx := ih (r + 1) (uPs (ptL A i) S).2.1 v' al' (by omega) (by omega) u.1 hv' ha' K1 K0
        rw [show ((r + 1 : Nat) : Int) = (r : Int) + 1 by omega] at nx
        exact nx
      · have hc : ¬ (uPs (ptL A i) S).2.2 = true := fun hc => by
          have h3 := u.2.2.1 hc
          have e := cmp_0.mp he
          rw [e] at hv'
          have : pS (uPs (ptL A i) S).2.1 10 = pS S 10 := by
            refine pS_cg 10 (fun c hc => ?_)
            refine ext4 (s10 ho u.1.1 c hc) (s10 ho hs.1 c hc) (fun y hy => ?_)
            have b1 := hv'.2 (4 * c + y) (by omega)
            have b2 := hv.2 (4 * c + y) (by omega)
            rw [b1, show (4 * c + y) / 4 = c by omega, show (4 * c + y) % 4 = y by omega, show decide (4 * c + y < 40) = true from decide_eq_true (by omega), Bool.true_and, Bool.true_and] at b2
            exact b2
          omega
        rw [if_neg hc] at K0
        exact K0 rfl
theorem sp_isByUnits (ho : pz_ok Z) (hz : cz M 11 Z) (hf : sta (M 34 8) (s_free Z)) (hA : cLnS Z M A) (hAl : A.length ≤ 1600) {i : Nat} {x : LN} (hx : A[i]? = some x) (hk : lnK x) (hg : ∀ (j : Nat) (y : LN), j < i → A[j]? = some y → ltg Z y.2.2.2) (K1 : unL Z (ptL A i) x → Q (some (jI 1)) M) (K0 : ¬ unL Z (ptL A i) x → Q (some (jI 0)) M) : wc (kcs L xs) (d + 3) 126 [jR 34, jI i] M Q := by
  have h9 := pz_n ho
  have hil := (List.getElem?_eq_some_iff.mp hx).1
  obtain ⟨hp, hm⟩ := cln_good (hA.2 i x hx)
  refine s126 (sp_denied (d := d) ho ⟨by omega, by omega⟩ hz hf hk.2.2.2.2.2.2 hp hm (fun v hv => s126_5 (sp_isBroken (d := d + 1) ho (dnS_ok ho) hv (s126_10 ?_))))
  by_cases hb : brk Z (dnS Z x.2.2.2)
  · rw [if_pos hb]
    exact ⟨⟨by omega, by omega⟩, fun h => by omega, fun _ => K1 (Or.inl hb)⟩
  · rw [if_neg hb]
    have hs : s_go Z (dnS Z x.2.2.2) := ⟨dnS_ok ho, fun c hc h0 => hb ((brk_10 ho (dnS_ok ho)).mpr ⟨c, hc, h0⟩)⟩
    have hp40 : pS (dnS Z x.2.2.2) 10 < 40 := by
      have e9 : dnS Z x.2.2.2 9 = 1 := (hs.1 9 (by omega)).2 (by omega)
      have := pS_le (S := dnS Z x.2.2.2) 9
      have e1 : pop4 1 = 1 := by decide
      rw [pS, e9, e1]
      omega
    refine ⟨⟨by omega, by omega⟩, fun _ => sp_settled (d := d + 1) hv (s10 ho hs.1) hs.2 (fun al ha => s126_19 ?_), fun h => absurd rfl h⟩
    exact un_lp ho hA hAl (by omega) hg 40 0 _ v al (by omega) hp40 hs hv ha (fun h => K1 (Or.inr h)) (fun h => K0 (fun hn => by
      rcases hn with hn | hn
      · exact hb hn
      · rw [h] at hn
        cases hn))
theorem lushr_bit {v : Int} {k : Int} (hk : 0 ≤ k ∧ k < 64) : fx_cmp (fx_land (fx_lushr v k) 1) 0 = 0 ↔ ¬ lbit v k.toNat = true := by
  rw [cmp_0]
  constructor
  · intro h hb
    have : lbit (fx_land (fx_lushr v k) 1) 0 = true := by
      rw [lbit_land, lbit_lushr _ hk, lbit_1, Nat.zero_add, hb]
      rfl
    rw [h, lbit_0] at this
    cases this
  · intro h
    by_cases hne : fx_land (fx_lushr v k) 1 = 0
    · exact hne
    · obtain ⟨i, hi, h1⟩ := (lbit_ne0 (in64_land _ _)).mp hne
      rw [lbit_land, lbit_lushr _ hk, lbit_1, Bool.and_eq_true, decide_eq_true_eq] at h1
      rw [h1.2, Nat.zero_add] at h1
      exact absurd h1.1 h
theorem sp_isGiven (ho : pz_ok Z) (hz : cz M 11 Z) (hA : cLnS Z M A) (hAl : A.length ≤ 1600) {i : Nat} {x : LN} (hx : A[i]? = some x) (hk : lnK x) (K1 : gvL Z x → Q (some (jI 1)) M) (K0 : ¬ gvL Z x → Q (some (jI 0)) M) : wc (kcs L xs) (d + 1) 122 [jR 34, jI i] M Q := by
  have h9 := pz_n ho
  have h4 := ho.2.2.2.2.2.1
  have hil := (List.getElem?_eq_some_iff.mp hx).1
  have hl := hA.2 i x hx
  obtain ⟨hp, hm⟩ := cln_good hl
  obtain ⟨k1, k2, k3, k4, k5, k6, k7⟩ := hk
  have hB : (0 : Int) ≤ (i : Int) ∧ (i : Int) < 1600 := by omega
  refine s122 ?_
  rw [hl.1, hz.2.2.1]
  by_cases hc : x.2.1 < Z.1 * Z.2.1
  · have hcn : ((x.2.1.toNat : Nat) : Int) = x.2.1 := by omega
    have e17 : M 17 x.2.1 = Z.2.2.2.2.getD x.2.1.toNat (-1) := by
      have := hz.2.2.2.2.2.2.1 x.2.1.toNat (by omega)
      rw [hcn] at this
      exact this
    have hgb : -1 ≤ Z.2.2.2.2.getD x.2.1.toNat (-1) ∧ Z.2.2.2.2.getD x.2.1.toNat (-1) < Z.2.2.1 := by
      have hl9 := ho.2.2.2.2.2.2.2.2.1
      have hlt : x.2.1.toNat < Z.2.2.2.2.length := by omega
      rw [List.getD_eq_getElem?_getD, List.getElem?_eq_getElem hlt, Option.getD_some]
      exact ho.2.2.2.2.2.2.2.2.2.1 _ (List.getElem_mem hlt)
    rw [if_pos hc, e17]
    by_cases hg0 : Z.2.2.2.2.getD x.2.1.toNat (-1) < 0
    · rw [if_pos hg0]
      exact ⟨hB, ⟨by omega, by omega⟩, ⟨by omega, by omega⟩, fun _ => ⟨by omega, by omega⟩, fun _ => ⟨by omega, by omega⟩, fun _ h => by omega, fun _ h => by omega, fun _ h => by omega, ⟨by omega, by omega⟩, K0 (fun h => by have := h.2.1; omega)⟩
    · rw [if_neg hg0]
      have hbit := lushr_bit (v := M 38 i) (k := 4 * x.2.1 + Z.2.2.2.2.getD x.2.1.toNat (-1)) ⟨by omega, by omega⟩
      have hlb : lbit (M 38 i) (4 * x.2.1 + Z.2.2.2.2.getD x.2.1.toNat (-1)).toNat = (ltM Z true x.2.2.2 x.2.1.toNat).testBit (Z.2.2.2.2.getD x.2.1.toNat (-1)).toNat := by
        rw [hp.2 _ (by omega), show (4 * x.2.1 + Z.2.2.2.2.getD x.2.1.toNat (-1)).toNat / 4 = x.2.1.toNat by omega, show (4 * x.2.1 + Z.2.2.2.2.getD x.2.1.toNat (-1)).toNat % 4 = (Z.2.2.2.2.getD x.2.1.toNat (-1)).toNat by omega, show decide ((4 * x.2.1 + Z.2.2.2.2.getD x.2.1.toNat (-1)).toNat < 40) = true from decide_eq_true (by omega), Bool.true_and]
      rw [hlb] at hbit
      refine ⟨hB, ⟨by omega, by omega⟩, ⟨by omega, by omega⟩, fun _ => ⟨by omega, by omega⟩, fun _ => ⟨by omega, by omega⟩, fun _ _ => hB, fun _ _ => ⟨by omega, by omega⟩, fun _ _ => in64_land _ _, ?_⟩
      by_cases ht : (ltM Z true x.2.2.2 x.2.1.toNat).testBit (Z.2.2.2.2.getD x.2.1.toNat (-1)).toNat = true
      · rw [if_neg (fun h => (hbit.mp h) ht)]
        exact ⟨⟨by omega, by omega⟩, K1 ⟨hc, by omega, ht⟩⟩
      · rw [if_pos (hbit.mpr ht)]
        exact ⟨⟨by omega, by omega⟩, K0 (fun h => ht h.2.2)⟩
  · rw [if_neg hc]
    exact ⟨hB, ⟨by omega, by omega⟩, ⟨by omega, by omega⟩, fun h => absurd h hc, fun h => absurd h hc, fun h => absurd h hc, fun h => absurd h hc, fun h => absurd h hc, ⟨by omega, by omega⟩, K0 (fun h => hc h.1)⟩
theorem noW_1 {q : List LT} {R : PR} (hn : R.2.2.Nodup) : noW Z q R none ↔ ¬ canM Z.1 R (dnS Z q) = true := by
  unfold noW
  rw [canM_f hn]
  constructor
  · rintro h ⟨f, h1, h2⟩
    refine h ⟨f, fun c hc => ?_, h2, fun R2 e => by cases e⟩
    unfold jnC at hc
    simp at hc
    exact h1 c hc
  · rintro h ⟨f, h1, h2, _⟩
    exact h ⟨f, fun c hc => h1 c (jnC_mem1 hc), h2⟩
theorem noW_2 {q : List LT} {R R2 : PR} : noW Z q R (some R2) ↔ ¬ ∃ f, way2 Z.1 R R2 (dnS Z q) f := by
  unfold noW
  constructor
  · rintro h ⟨f, ⟨h1, h2⟩, h3, h4⟩
    refine h ⟨f, fun c hc => ?_, h2, fun R3 e => by cases e; exact h4⟩
    rcases jnC_or hc with e | e
    · exact h1 c e
    · exact h3 c e
  · rintro h ⟨f, h1, h2, h3⟩
    exact h ⟨f, ⟨fun c hc => h1 c (jnC_mem1 hc), h2⟩, fun c hc => h1 c (jnC_mem2 hc), h3 R2 rfl⟩
theorem sp_isByTwo (ho : pz_ok Z) (hc : ckn M 11 Z) (hf : sta (M 34 8) (s_free Z)) (hA : cLnS Z M A) (hAl : A.length ≤ 1600) {i : Nat} {x : LN} (hx : A[i]? = some x) (hk : lnK x) (K1 : twL Z x → Q (some (jI 1)) M) (K0 : ¬ twL Z x → Q (some (jI 0)) M) : wc (kcs L xs) (d + 13) 124 [jR 34, jI i] M Q := by
  have h9 := pz_n ho
  have h12 := ho.2.2.2.2.2.2.1
  have hil := (List.getElem?_eq_some_iff.mp hx).1
  have hl := hA.2 i x hx
  obtain ⟨hp, hm⟩ := cln_good hl
  obtain ⟨k1, k2, k3, k4, k5, k6, k7⟩ := hk
  have hB : (0 : Int) ≤ (i : Int) ∧ (i : Int) < 1600 := by omega
  refine s124 ?_
  rw [hl.1, hl.2.1, hc.1.2.2.2.2.1]
  refine ⟨hB, hB, ⟨⟨by omega, by omega⟩, ⟨by omega, by omega⟩⟩, fun h => K0 (fun ht => by have := ht.1; omega), fun hlt => ⟨⟨⟨by omega, by omega⟩, ⟨by omega, by omega⟩⟩, fun hq => ?_, fun h => K0 (fun ht => ?_)⟩⟩
  · have hr1 : x.2.1.toNat < Z.2.2.2.1.length := by omega
    have hr2 : x.2.2.1.toNat < Z.2.2.2.1.length := by omega
    have hR := List.getElem?_eq_getElem hr1
    have hR2 := List.getElem?_eq_getElem hr2
    have c1 := pr_c9 ho (List.getElem_mem hr1)
    have c2 := pr_c9 ho (List.getElem_mem hr2)
    have n1 := nar_lt c1
    have n2 := nar_lt c2
    have hRo := ho.2.2.2.2.2.2.2.1 _ (List.getElem_mem hr1)
    have ea : ∀ (r : Nat) (R : PR), Z.2.2.2.1[r]? = some R → (∀ c ∈ R.2.2, 0 ≤ c ∧ c < 9) → M 16 (r : Int) = ((nar R.2.2 : Nat) : Int) := fun r R hR h => by
      rw [← (area_nar (fun c hc => by have := h c hc; omega)).1]
      exact (hc.1.2.2.2.2.2.1 r R hR).2.2.2.2
    have e1 : M 16 x.2.1 = ((nar Z.2.2.2.1[x.2.1.toNat].2.2 : Nat) : Int) := by
      have := ea _ _ hR c1
      rw [show ((x.2.1.toNat : Nat) : Int) = x.2.1 by omega] at this
      exact this
    have e2 : M 16 x.2.2.1 = ((nar Z.2.2.2.1[x.2.2.1.toNat].2.2 : Nat) : Int) := by
      have := ea _ _ hR2 c2
      rw [show ((x.2.2.1.toNat : Nat) : Int) = x.2.2.1 by omega] at this
      exact this
    have hm1 : ∀ j : Nat, (nar Z.2.2.2.1[x.2.1.toNat].2.2).testBit j = true ↔ (j : Int) ∈ Z.2.2.2.1[x.2.1.toNat].2.2 := fun j => by
      have := nar_mem (c := (j : Int)) (fun y hy => by have := c1 y hy; omega) (by omega)
      rw [Int.toNat_natCast] at this
      exact this
    have hm2 : ∀ j : Nat, (nar Z.2.2.2.1[x.2.2.1.toNat].2.2).testBit j = true ↔ (j : Int) ∈ Z.2.2.2.1[x.2.2.1.toNat].2.2 := fun j => by
      have := nar_mem (c := (j : Int)) (fun y hy => by have := c2 y hy; omega) (by omega)
      rw [Int.toNat_natCast] at this
      exact this
    obtain ⟨j1, j2, j3⟩ := jnC_ok (s := some Z.2.2.2.1[x.2.2.1.toNat]) (q := x.2.2.1) ho hRo (Or.inr ⟨x.2.2.1.toNat, _, by omega, rfl, hR2⟩)
    have hOlt : nar Z.2.2.2.1[x.2.1.toNat].2.2 ||| nar Z.2.2.2.1[x.2.2.1.toNat].2.2 < 512 := Nat.or_lt_two_pow (n := 9) n1 n2
    have hClt : nar Z.2.2.2.1[x.2.1.toNat].2.2 &&& nar Z.2.2.2.1[x.2.2.1.toNat].2.2 < 512 := Nat.lt_of_le_of_lt Nat.and_le_left n1
    have hpl : popc (nar Z.2.2.2.1[x.2.1.toNat].2.2 ||| nar Z.2.2.2.1[x.2.2.1.toNat].2.2) = (jnC Z.2.2.2.1[x.2.1.toNat] (some Z.2.2.2.1[x.2.2.1.toNat])).length := popc_len j2 (fun c h => by have := j3 c h; omega) (fun j hj => by
      rw [Nat.testBit_or, Bool.or_eq_true, hm1, hm2]
      constructor
      · rintro (h | h)
        · exact jnC_mem1 h
        · exact jnC_mem2 h
      · exact jnC_or)
    rw [e1, e2, fx_or_nat ⟨by omega, by omega⟩ ⟨by omega, by omega⟩, fx_and_nn (by omega) (by omega), Int.toNat_natCast, Int.toNat_natCast]
    refine ⟨⟨by omega, by omega⟩, ⟨by omega, by omega⟩, ⟨by omega, by omega⟩, ⟨by omega, by omega⟩, sp_bitCount (d := d + 11) (s124_75 ?_)⟩
    rw [show bct ((nar Z.2.2.2.1[x.2.1.toNat].2.2 ||| nar Z.2.2.2.1[x.2.2.1.toNat].2.2 : Nat) : Int) = ((popc (nar Z.2.2.2.1[x.2.1.toNat].2.2 ||| nar Z.2.2.2.1[x.2.2.1.toNat].2.2) : Nat) : Int) from bct9 ⟨_, hOlt⟩, hpl]
    refine ⟨⟨by omega, by omega⟩, fun h6 => K0 (fun ht => ?_), fun h6 => sp_denied (d := d + 10) ho hB hc.1 hf k7 hp hm (fun v hv => s124_91 ?_)⟩
    · obtain ⟨_, R, R2, t1, t2, t3, _⟩ := ht
      rw [hR] at t1
      rw [hR2] at t2
      cases t1
      cases t2
      omega
    · have nj := sp_jointly (L := L) (xs := xs) (p := 11) (M := M) puz11 hc ho hR hR2 9 (d := d) (Q := fun u M1 => wp (kcs L xs) (d + 13) 124 96 [none, none, none, none, none] (u.toList ++ []) M1 Q) (S := dnS Z x.2.2.2) (x := v) (C := nar Z.2.2.2.1[x.2.1.toNat].2.2 &&& nar Z.2.2.2.1[x.2.2.1.toNat].2.2) (popc_9 _) hClt (fun j hj => by
        rw [Nat.testBit_and, Bool.and_eq_true, hm1, hm2] at hj
        exact hj) (fun c h1 h2 => Or.inl (by
        have hc0 := c1 c h1
        rw [Nat.testBit_and, Bool.and_eq_true, hm1, hm2, show ((c.toNat : Nat) : Int) = c by omega]
        exact ⟨h1, h2⟩)) (dnS_ok ho) hv (fun y hy => s124_96 ?_)
      · rw [show ((x.2.1.toNat : Nat) : Int) = x.2.1 by omega, show ((x.2.2.1.toNat : Nat) : Int) = x.2.2.1 by omega] at nj
        exact nj
      · obtain ⟨y1, y2, _⟩ := hy
        by_cases h0 : y = 0
        · rw [if_pos (cmp_0.mpr h0)]
          refine ⟨y1, ⟨by omega, by omega⟩, K1 ⟨hlt, _, _, hR, hR2, by omega, noW_2.mpr (fun he => (y2.mpr he) h0)⟩⟩
        · rw [if_neg (fun h => h0 (cmp_0.mp h))]
          refine ⟨y1, ⟨by omega, by omega⟩, K0 (fun ht => ?_)⟩
          obtain ⟨_, R, R2, t1, t2, _, t4⟩ := ht
          rw [hR] at t1
          rw [hR2] at t2
          cases t1
          cases t2
          exact (noW_2.mp t4) (y2.mp h0)
  · obtain ⟨_, R, R2, _, t2, _, _⟩ := ht
    have := (List.getElem?_eq_some_iff.mp t2).1
    omega
theorem pow2_inj {a b : Nat} (h : 2 ^ a = 2 ^ b) : a = b := by
  have h1 := pow_bit a a
  rw [h, pow_bit] at h1
  simpa using h1
theorem pop4_one2 : ∀ m : Fin 16, pop4 (m : Nat) = 1 ↔ ∃ y : Fin 4, (m : Nat) = 2 ^ (y : Nat) := by decide +kernel
theorem sp_isByAnswer (ho : pz_ok Z) (hc : ckn M 11 Z) (hf : sta (M 34 8) (s_free Z)) (hA : cLnS Z M A) (hAl : A.length ≤ 1600) {i : Nat} {x : LN} (hx : A[i]? = some x) (hk : lnK x) (hg : ltg Z x.2.2.2) (K1 : fiL Z x → Q (some (jI 1)) M) (K0 : ¬ fiL Z x → Q (some (jI 0)) M) : wc (kcs L xs) (d + 3) 130 [jR 34, jI i] M Q := by
  have h9 := pz_n ho
  have hil := (List.getElem?_eq_some_iff.mp hx).1
  have hl := hA.2 i x hx
  obtain ⟨hp, hm⟩ := cln_good hl
  have hB : (0 : Int) ≤ (i : Int) ∧ (i : Int) < 1600 := by omega
  have hpz : M 38 i = 0 ↔ ∀ z ∈ x.2.2.2, z.1 ≠ 0 := by
    constructor
    · intro h0 z hz hz0
      obtain ⟨b1, b2, b3, b4, b5, b6, b7⟩ := lt_b ho hg hz
      have hb := hp.2 (4 * z.2.1.toNat + z.2.2.toNat) (by omega)
      rw [h0, lbit_0, show (4 * z.2.1.toNat + z.2.2.toNat) / 4 = z.2.1.toNat by omega, show (4 * z.2.1.toNat + z.2.2.toNat) % 4 = z.2.2.toNat by omega, ltM_bit.mpr ⟨z, hz, decide_eq_true hz0, ltg_lin hg z hz, b3.symm, rfl⟩, Bool.and_true] at hb
      have := of_decide_eq_false hb.symm
      omega
    · intro h
      refine sta_inj (sta_ext hp (fun c hc => ?_)) sta_z
      exact ltM_0.mpr (fun z hz h1 _ => absurd (of_decide_eq_true h1) (h z hz))
  refine s130 ⟨hB, hp.1, fun h0 => ?_, fun hne => K0 (fun ht => hne (cmp_0.mpr (hpz.mpr ht.1)))⟩
  have hmin := hpz.mp (cmp_0.mp h0)
  have z : ∀ (t c : Nat), (c : Int) + t = Z.1 * Z.2.1 → (∀ k : Nat, k < c → pop4 (ltM Z false x.2.2.2 k) = 1) → wp (kcs L xs) (d + 3) 130 15 [some (jR 34), some (jI i), some (jI c)] [] M Q := by
    intro t
    induction t with
    | zero =>
      intro c hcn hk1
      refine s130_15 ?_
      rw [hc.1.2.2.1]
      refine ⟨⟨⟨by omega, by omega⟩, ⟨by omega, by omega⟩⟩, fun _ => sp_denied (d := d) ho hB hc.1 hf hg.1 hp hm (fun v hv => s130_60 ?_), fun h => by omega⟩
      have hy : ∀ k : Nat, k < (Z.1 * Z.2.1).toNat → ∃ y : Nat, y < 4 ∧ ltM Z false x.2.2.2 k = 2 ^ y := fun k hk => by
        obtain ⟨y, hy⟩ := (pop4_one2 ⟨ltM Z false x.2.2.2 k, ltM_16 ho hg.1⟩).mp (hk1 k (by omega))
        exact ⟨y, y.isLt, hy⟩
      have hlow : ∀ k : Nat, k < (Z.1 * Z.2.1).toNat → ltM Z false x.2.2.2 k = 2 ^ lowb (ltM Z false x.2.2.2 k) ∧ lowb (ltM Z false x.2.2.2 k) < 4 := fun k hk => by
        obtain ⟨y, hy1, hy2⟩ := hy k hk
        rw [hy2, (low_pow ⟨y, by omega⟩).1]
        exact ⟨rfl, hy1⟩
      have hplz : ∀ k : Nat, ltM Z true x.2.2.2 k = 0 := fun k => ltM_0.mpr (fun z hz h1 _ => absurd (of_decide_eq_true h1) (hmin z hz))
      have hlt : ∀ k : Nat, k < (Z.1 * Z.2.1).toNat → ((lowb (ltM Z false x.2.2.2 k) : Nat) : Int) < Z.2.2.1 := fun k hk => by
        obtain ⟨l1, l2⟩ := hlow k hk
        have hb : (ltM Z false x.2.2.2 k).testBit (lowb (ltM Z false x.2.2.2 k)) = true := by
          rw [l1, pow_bit]
          simp [(low_pow ⟨lowb (ltM Z false x.2.2.2 k), by omega⟩).1]
        obtain ⟨z, hz, _, hl2, _, hz5⟩ := ltM_bit.mp hb
        obtain ⟨b1, b2, b3, b4, b5, b6, b7⟩ := lt_b ho hg hz
        omega
      let y : List Int := (List.range (Z.1 * Z.2.1).toNat).map fun k => ((lowb (ltM Z false x.2.2.2 k) : Nat) : Int)
      have yl : y.length = (Z.1 * Z.2.1).toNat := by
        show ((List.range (Z.1 * Z.2.1).toNat).map _).length = _
        rw [List.length_map, List.length_range]
      have yg : ∀ k : Nat, k < (Z.1 * Z.2.1).toNat → y.getD k 0 = ((lowb (ltM Z false x.2.2.2 k) : Nat) : Int) := fun k hk => by
        show ((List.range (Z.1 * Z.2.1).toNat).map _).getD k 0 = _
        rw [List.getD_eq_getElem?_getD, List.getElem?_map, List.getElem?_range hk]
        rfl
      have eS : ∀ k : Nat, k < y.length → dnS Z x.2.2.2 k = 2 ^ (y.getD k 0).toNat := fun k hk => by
        rw [yl] at hk
        obtain ⟨l1, l2⟩ := hlow k hk
        rw [yg k hk, Int.toNat_natCast]
        refine pow_of l2 (s10 ho (dnS_ok ho) k (by omega)) (fun z hz => ?_)
        rw [dnS_bit (by omega) hz, hplz, Nat.zero_testBit]
        constructor
        · rintro ⟨_, _, h | h⟩
          · rw [l1] at h
            exact absurd h (Nat.ne_of_gt (Nat.two_pow_pos _))
          · rw [l1] at h
            exact (pow2_inj h).symm
        · intro h
          have := hlt k hk
          rw [h]
          exact ⟨this, by decide, Or.inr l1⟩
      have yv : ∀ k : Nat, k < y.length → 0 ≤ y.getD k 0 ∧ y.getD k 0 < Z.2.2.1 := fun k hk => by
        rw [yl] at hk
        rw [yg k hk]
        exact ⟨by omega, hlt k hk⟩
      refine sp_isAnswer (d := d) (x := y) puz11 ho hc (by rw [yl]; omega) (dnS_ok ho) hv eS yv (s130_63 ?_)
      by_cases hk2 : okx Z y = true
      · rw [hk2]
        exact ⟨⟨by decide, by decide⟩, K1 ⟨hmin, y, yl, fun k hk => ⟨(yv k hk).1, (yv k hk).2, by
          rw [yl] at hk
          rw [yg k hk, Int.toNat_natCast]
          exact (hlow k hk).1⟩, hk2⟩⟩
      · simp only [Bool.not_eq_true] at hk2
        rw [hk2]
        refine ⟨⟨by decide, by decide⟩, K0 (fun ht => ?_)⟩
        obtain ⟨_, w, w1, w2, w3⟩ := ht
        have ew : w = y := by
          refine List.ext_getElem (by rw [w1, yl]) (fun k h1 h2 => ?_)
          have a1 := w2 k h1
          have a2 := yg k (by omega)
          rw [List.getD_eq_getElem?_getD, List.getElem?_eq_getElem h1, Option.getD_some] at a1
          rw [List.getD_eq_getElem?_getD, List.getElem?_eq_getElem h2, Option.getD_some] at a2
          rw [a2]
          have h4 := ho.2.2.2.2.2.1
          rw [a1.2.2, (low_pow ⟨w[k].toNat, by omega⟩).1]
          simp only
          omega
        rw [ew, hk2] at w3
        cases w3
    | succ t ih =>
      intro c hcn hk1
      refine s130_15 ?_
      rw [hc.1.2.2.1]
      have h16 := ltM_16 ho hg.1 (b := false) (c := c)
      refine ⟨⟨⟨by omega, by omega⟩, ⟨by omega, by omega⟩⟩, fun h => by omega, fun _ => ⟨hB, sp_may (d := d + 1) hm ⟨by omega, by omega⟩ (by rw [Int.toNat_natCast]; exact h16) (s130_36 ?_)⟩⟩
      rw [Int.toNat_natCast]
      refine sp_bitCount (d := d + 1) (s130_39 ?_)
      have hb := bct4 ⟨ltM Z false x.2.2.2 c, h16⟩
      simp only at hb
      rw [hb]
      have hp4 := pop4_le (ltM Z false x.2.2.2 c)
      refine ⟨⟨by omega, by omega⟩, fun h1 => ?_, fun hne => K0 (fun ht => ?_)⟩
      · have nx := ih (c + 1) (by omega) (fun k hk => by
          by_cases e : k = c
          · rw [e]
            omega
          · exact hk1 k (by omega))
        rw [show ((c + 1 : Nat) : Int) = (c : Int) + 1 by omega] at nx
        exact nx
      · obtain ⟨_, w, w1, w2, _⟩ := ht
        have a := w2 c (by omega)
        have h4 := ho.2.2.2.2.2.1
        rw [a.2.2, pop4_pow ⟨(w.getD c 0).toNat, by omega⟩] at hne
        exact hne rfl
  exact z (Z.1 * Z.2.1).toNat 0 (by omega) (fun k hk => by omega)
theorem sp_isRight (ho : pz_ok Z) (hc : ckn M 11 Z) (hf : sta (M 34 8) (s_free Z)) (hA : cLnS Z M A) (hAl : A.length ≤ 1600) {i : Nat} {x : LN} (hx : A[i]? = some x) (hk : lnK x) (hg : ∀ (j : Nat) (y : LN), j < i → A[j]? = some y → ltg Z y.2.2.2) (K1 : rgt Z (ptL A i) x → Q (some (jI 1)) M) (K0 : ¬ rgt Z (ptL A i) x → Q (some (jI 0)) M) : wc (kcs L xs) (d + 14) 121 [jR 34, jI i] M Q := by
  have h12 := ho.2.2.2.2.2.2.1
  have hil := (List.getElem?_eq_some_iff.mp hx).1
  have hl := hA.2 i x hx
  obtain ⟨hp, hm⟩ := cln_good hl
  have hB : (0 : Int) ≤ (i : Int) ∧ (i : Int) < 1600 := by omega
  obtain ⟨k1, k2, k3, k4, k5, k6, k7⟩ := hk
  have hk : lnK x := ⟨k1, k2, k3, k4, k5, k6, k7⟩
  refine s121 ⟨hB, ?_⟩
  by_cases hw : flw Z x.2.2.2
  · rw [hl.2.2.1 hw]
    exact ⟨⟨by omega, by omega⟩, fun h => by omega, fun h => by omega, fun h => by omega, fun h => by omega, fun h => by omega, fun _ => K0 (fun h => h.1 hw)⟩
  · rw [hl.2.2.2.1 hw]
    have hgx : ltg Z x.2.2.2 := ⟨k7, hw⟩
    have r1 : ∀ {P : Prop}, (x.1 = 0 → P → gvL Z x) → (x.1 = 1 → P → ruL Z x) → (x.1 = 2 → P → twL Z x) → (x.1 = 3 → P → unL Z (ptL A i) x) → (x.1 = 4 → P → fiL Z x) → P → rgt Z (ptL A i) x := fun a0 a1 a2 a3 a4 p => ⟨hw, fun h => a0 h p, fun h => a1 h p, fun h => a2 h p, fun h => a3 h p, fun h => a4 h p⟩
    refine ⟨⟨by omega, by omega⟩, fun h => sp_isGiven (d := d + 12) ho hc.1 hA hAl hx hk (fun t => s121_45 ⟨⟨by omega, by omega⟩, K1 ⟨hw, fun _ => t, fun h' => by omega, fun h' => by omega, fun h' => by omega, fun h' => by omega⟩⟩) (fun t => s121_45 ⟨⟨by omega, by omega⟩, K0 (fun h' => t (h'.2.1 h))⟩), fun h => ⟨hB, ?_⟩, fun h => sp_isByTwo (d := d) ho hc hf hA hAl hx hk (fun t => s121_94 ⟨⟨by omega, by omega⟩, K1 ⟨hw, fun h' => by omega, fun h' => by omega, fun _ => t, fun h' => by omega, fun h' => by omega⟩⟩) (fun t => s121_94 ⟨⟨by omega, by omega⟩, K0 (fun h' => t (h'.2.2.2.1 h))⟩), fun h => sp_isByUnits (d := d + 10) ho hc.1 hf hA hAl hx hk hg (fun t => s121_100 ⟨⟨by omega, by omega⟩, K1 ⟨hw, fun h' => by omega, fun h' => by omega, fun h' => by omega, fun _ => t, fun h' => by omega⟩⟩) (fun t => s121_100 ⟨⟨by omega, by omega⟩, K0 (fun h' => t (h'.2.2.2.2.1 h))⟩), fun h => sp_isByAnswer (d := d + 10) ho hc hf hA hAl hx hk hgx (fun t => s121_106 ⟨⟨by omega, by omega⟩, K1 ⟨hw, fun h' => by omega, fun h' => by omega, fun h' => by omega, fun h' => by omega, fun _ => t⟩⟩) (fun t => s121_106 ⟨⟨by omega, by omega⟩, K0 (fun h' => t (h'.2.2.2.2.2 h))⟩), fun h => by omega⟩
    rw [hl.1, hc.1.2.2.2.2.1]
    refine ⟨⟨⟨by omega, by omega⟩, ⟨by omega, by omega⟩⟩, fun hge => K0 (fun h' => ?_), fun hlt => ⟨hB, sp_denied (d := d + 11) ho hB hc.1 hf k7 hp hm (fun v hv => s121_77 ?_)⟩⟩
    · obtain ⟨R, t1, _⟩ := h'.2.2.1 h
      have := (List.getElem?_eq_some_iff.mp t1).1
      omega
    · have hr1 : x.2.1.toNat < Z.2.2.2.1.length := by omega
      have hR := List.getElem?_eq_getElem hr1
      have hRo := ho.2.2.2.2.2.2.2.1 _ (List.getElem_mem hr1)
      have sp := sp_supports (L := L) (xs := xs) (d := d + 12) (p := 11) (Q := fun v M1 => wp (kcs L xs) (d + 14) 121 80 [none, none] (v.toList ++ []) M1 Q) puz11 hc ho (dnS_ok ho) hv hR (fun f hf1 hf2 => s121_80 ?_)
      · rw [show ((x.2.1.toNat : Nat) : Int) = x.2.1 by omega] at sp
        exact sp
      · have hcan := sup_f0 hf1 hRo.2.2.2.2.1 hf2
        by_cases h0 : f = 0
        · rw [if_pos (by omega)]
          refine ⟨⟨by omega, by omega⟩, ⟨by omega, by omega⟩, K1 ⟨hw, fun h' => by omega, fun _ => ⟨_, hR, (noW_1 hRo.2.2.2.2.2.2.2).mpr (fun hcm => (hcan.mpr hcm) h0)⟩, fun h' => by omega, fun h' => by omega, fun h' => by omega⟩⟩
        · rw [if_neg (by omega)]
          refine ⟨⟨by omega, by omega⟩, ⟨by omega, by omega⟩, K0 (fun h' => ?_)⟩
          obtain ⟨R, t1, t2⟩ := h'.2.2.1 h
          rw [hR] at t1
          cases t1
          exact ((noW_1 hRo.2.2.2.2.2.2.2).mp t2) (hcan.mp h0)
end CVD
