/-! Covers of the cells by rules, in order; the class's list of covers. -/
/-- a without the bits of b -/
def anb (a b : Nat) : Nat := a &&& (511 ^^^ b)
theorem lt512_bit {a i : Nat} (ha : a < 512) (h : a.testBit i = true) : i < 9 := bit_lt (s := 9) ha h
theorem anb_bit {a b i : Nat} (ha : a < 512) : (anb a b).testBit i = (a.testBit i && !b.testBit i) := by
  unfold anb
  rw [Nat.testBit_and, Nat.testBit_xor]
  by_cases h : a.testBit i = true
  · have hi := lt512_bit ha h
    have e : (511 : Nat).testBit i = true := (by decide : ∀ k : Fin 9, (511 : Nat).testBit (k : Nat) = true) ⟨i, hi⟩
    rw [e, h]
    simp
  · have h' : a.testBit i = false := by simpa using h
    rw [h', Bool.false_and, Bool.false_and]
theorem anb_lt {a b : Nat} (ha : a < 512) : anb a b < 512 := Nat.lt_of_le_of_lt Nat.and_le_left ha
theorem anb_fx {a b : Nat} (ha : a < 512) (hb : b < 512) : fx_and (a : Int) (fx_xor (b : Int) (-1)) = ((anb a b : Nat) : Int) := by
  obtain ⟨g, h1, _, h3⟩ := and_not (a := a) (b := b) (by omega) (by omega)
  rw [h1]
  have e : g = anb a b := Nat.eq_of_testBit_eq (fun i => by rw [h3, anb_bit ha])
  rw [e]
theorem anb_0 {a b : Nat} (ha : a < 512) : anb a b = 0 ↔ ∀ i, a.testBit i = true → b.testBit i = true := by
  constructor
  · intro h i hi
    have e := anb_bit (a := a) (b := b) (i := i) ha
    rw [h, Nat.zero_testBit, hi] at e
    simpa using e
  · intro h
    refine Nat.eq_of_testBit_eq (fun i => ?_)
    rw [anb_bit ha, Nat.zero_testBit]
    by_cases hi : a.testBit i = true
    · rw [hi, h i hi]
      rfl
    · have h' : a.testBit i = false := by simpa using hi
      rw [h', Bool.false_and]
theorem popc_anb {a m : Nat} (ha : a < 512) (hm9 : m < 512) (hm : m ≠ 0) (hs : anb m a = 0) : popc (anb a m) + 1 ≤ popc a := by
  obtain ⟨j, hj⟩ := Nat.exists_testBit_of_ne_zero hm
  have hj9 := lt512_bit hm9 hj
  have hja := (anb_0 hm9).mp hs j hj
  unfold popc
  have := sub_len (l := j :: (List.range 9).filter (anb a m).testBit) (m := (List.range 9).filter a.testBit) (List.nodup_cons.mpr ⟨fun h => by
    have := (List.mem_filter.mp h).2
    rw [anb_bit ha, hj, hja] at this
    simp at this, List.Pairwise.filter _ List.nodup_range⟩) (fun x hx => by
    rcases List.mem_cons.mp hx with e | e
    · rw [e]
      exact List.mem_filter.mpr ⟨List.mem_range.mpr hj9, hja⟩
    · obtain ⟨x1, x2⟩ := List.mem_filter.mp e
      rw [anb_bit ha] at x2
      exact List.mem_filter.mpr ⟨x1, by simp at x2; exact x2.1⟩)
  simpa using this
/-- the cells of the rules, as bits -/
def rmS (Z : PZ) : List Nat := Z.2.2.2.1.map fun R => nar R.2.2
/-- all cells -/
def wl (Z : PZ) : Nat := 2 ^ (Z.1 * Z.2.1).toNat - 1
/-- the covers of what is left by rules from number r on -/
def cvL : List Nat → Nat → Nat → List (List Nat)
  | [], _, left => if left = 0 then [[]] else []
  | m :: l, r, left => if left = 0 then [[]] else (if anb m left = 0 then (cvL l (r + 1) (anb left m)).map (r :: ·) else []) ++ cvL l (r + 1) left
theorem cvL_0 {l : List Nat} {r : Nat} : cvL l r 0 = [[]] := by
  cases l <;> simp [cvL]
theorem cvL_nil {r left : Nat} (h : left ≠ 0) : cvL [] r left = [] := by
  rw [cvL, if_neg h]
theorem cvL_cons {m r left : Nat} {l : List Nat} (h : left ≠ 0) : cvL (m :: l) r left = (if anb m left = 0 then (cvL l (r + 1) (anb left m)).map (r :: ·) else []) ++ cvL l (r + 1) left := by
  rw [cvL, if_neg h]
def covs (Z : PZ) : List (List Nat) := cvL (rmS Z) 0 (wl Z)
/-- a cover as a text; first: whether it is the first rule -/
def tCw : Bool → List Nat → List Int
  | _, [] => [32]
  | b, r :: l => (if b then [] else [43]) ++ dgs (r : Int) ++ tCw false l
def tCs (A : List (List Nat)) (k : Nat) : List Int := (A.take k).flatMap (tCw true)
def tCov (Z : PZ) (n : Nat) : List Int := tCs (covs Z) n ++ (if n < (covs Z).length then wls 1836020325 else wls 6384748)
theorem tCs_app {A B : List (List Nat)} {k : Nat} : tCs (A ++ B) k = tCs A k ++ tCs B (k - A.length) := by
  unfold tCs
  rw [List.take_append, List.flatMap_append]
theorem tCs_0 {A : List (List Nat)} : tCs A 0 = [] := by
  unfold tCs
  simp
/-- how many were found -/
def lsC (n l a : Nat) : Nat := if l + a ≤ n + 1 then l + a else n + 1
theorem lsC_add {n l a b : Nat} : lsC n (lsC n l a) b = lsC n l (a + b) := by
  have e : lsC n l a = if l + a ≤ n + 1 then l + a else n + 1 := rfl
  by_cases h : l + a ≤ n + 1
  · rw [e, if_pos h]
    unfold lsC
    rw [Nat.add_assoc]
  · rw [e, if_neg h]
    unfold lsC
    rw [if_neg (show ¬ l + (a + b) ≤ n + 1 by omega)]
    split <;> omega
theorem nar_lt {l : List Int} (h : ∀ c ∈ l, 0 ≤ c ∧ c < 9) : nar l < 512 := by
  refine Nat.lt_pow_two_of_testBit (n := 9) _ (fun i hi => ?_)
  rw [nar_bit]
  simp only [List.any_eq_false, beq_iff_eq]
  intro c hc
  have := h c hc
  omega
theorem nar_ne {l : List Int} (h : ∀ c ∈ l, 0 ≤ c ∧ c < 9) (hl : 1 ≤ l.length) : nar l ≠ 0 := by
  intro e
  cases l with
  | nil => simp at hl
  | cons c l =>
    have hc := h c (List.mem_cons_self ..)
    have := (nar_mem (l := c :: l) (c := c) (fun x hx => by have := h x hx; omega) hc.1).mpr (List.mem_cons_self ..)
    rw [e, Nat.zero_testBit] at this
    cases this
theorem rmS_drop {Z : PZ} {r : Nat} {R : PR} (h : Z.2.2.2.1[r]? = some R) : (rmS Z).drop r = nar R.2.2 :: (rmS Z).drop (r + 1) := by
  obtain ⟨hl, e⟩ := List.getElem?_eq_some_iff.mp h
  unfold rmS
  rw [← List.map_drop, ← List.map_drop, List.drop_eq_getElem_cons hl, e, List.map_cons]
theorem rmS_all {Z : PZ} {r : Nat} (h : Z.2.2.2.1.length ≤ r) : (rmS Z).drop r = [] := List.drop_eq_nil_of_le (by unfold rmS; simpa using h)
theorem wl_lt {Z : PZ} (ho : pz_ok Z) : wl Z < 512 := by
  have h9 := pz_n ho
  have h := Nat.pow_le_pow_right (n := 2) (by decide) (show (Z.1 * Z.2.1).toNat ≤ 9 by omega)
  unfold wl
  generalize 2 ^ (Z.1 * Z.2.1).toNat = p at h ⊢
  omega
theorem wl_ne {Z : PZ} (ho : pz_ok Z) : wl Z ≠ 0 := by
  have h9 := pz_n ho
  have h := Nat.pow_le_pow_right (n := 2) (by decide) (show 1 ≤ (Z.1 * Z.2.1).toNat by omega)
  unfold wl
  generalize 2 ^ (Z.1 * Z.2.1).toNat = p at h ⊢
  omega
theorem wl_fx {Z : PZ} (ho : pz_ok Z) : fx_shl 1 (Z.1 * Z.2.1) - 1 = ((wl Z : Nat) : Int) := by
  have h9 := pz_n ho
  rw [fx_shl_1 ⟨by omega, by omega⟩]
  have h1 := Nat.one_le_two_pow (n := (Z.1 * Z.2.1).toNat)
  unfold wl
  generalize 2 ^ (Z.1 * Z.2.1).toNat = p at h1 ⊢
  omega
theorem pr_c9 {Z : PZ} (ho : pz_ok Z) {R : PR} (hR : R ∈ Z.2.2.2.1) : ∀ c ∈ R.2.2, 0 ≤ c ∧ c < 9 := fun c hc => by
  have h9 := pz_n ho
  have := (ho.2.2.2.2.2.2.2.1 R hR).2.2.2.2.2.2.1 c hc
  omega
theorem nar_wl {Z : PZ} (ho : pz_ok Z) {R : PR} (hR : R ∈ Z.2.2.2.1) {i : Nat} (h : (nar R.2.2).testBit i = true) : (wl Z).testBit i = true := by
  rw [nar_bit] at h
  simp only [List.any_eq_true, beq_iff_eq] at h
  obtain ⟨c, h1, h2⟩ := h
  have := (ho.2.2.2.2.2.2.2.1 R hR).2.2.2.2.2.2.1 c h1
  unfold wl
  rw [Nat.testBit_two_pow_sub_one]
  exact decide_eq_true (by omega)
section CCV
variable {L : Nat} {xs : Nat → Int32} {d : Nat} {Q : Option fx_V → fx_M → Prop} {Z : PZ}
theorem cw_loop {p : List Nat} (hp : p.length ≤ 10) (hq : ∀ i : Nat, i < p.length → p.getD i 0 < 12) : ∀ (t i : Nat) (M : fx_M), i + t = p.length → o_ok M 3 → (∀ i : Nat, i < p.length → M 51 (i : Int) = ((p.getD i 0 : Nat) : Int)) → Q none (o_app M 3 (tCw (decide (i = 0)) (p.drop i))) → wp (kcs L xs) (d + 2) 162 2 [some (jR 50), some (jI p.length), some (jI i)] [] M Q
  | 0, i, M, hi, hO, h51, K => by
    rw [List.drop_eq_nil_of_le (by omega), tCw] at K
    exact s162_2 ⟨⟨⟨by omega, by omega⟩, ⟨by omega, by omega⟩⟩, fun _ => sp_put out3 hO ⟨by omega, by omega⟩ (s162_57 K), fun h => by omega⟩
  | t + 1, i, M, hi, hO, h51, K => by
    have hil : i < p.length := by omega
    have e : p.drop i = p.getD i 0 :: p.drop (i + 1) := by
      rw [List.drop_eq_getElem_cons hil, List.getD_eq_getElem?_getD, List.getElem?_eq_getElem hil, Option.getD_some]
    have hv := hq i hil
    rw [e, tCw] at K
    have go : ∀ N : fx_M, o_ok N 3 → (∀ j : Nat, j < p.length → N 51 (j : Int) = ((p.getD j 0 : Nat) : Int)) → Q none (o_app N 3 (dgs ((p.getD i 0 : Nat) : Int) ++ tCw false (p.drop (i + 1)))) → wc (kcs L xs) (d + 1) 65 [jR 3, jI (N 51 (i : Int))] N (fun v M1 => wp (kcs L xs) (d + 2) 162 42 [some (jR 50), some (jI p.length), some (jI i)] (v.toList ++ []) M1 Q) := fun N hN h5 KN => by
      rw [h5 i hil]
      refine sp_number out3 hN (by omega) (by omega) (s162_42 ?_)
      have nx := cw_loop hp hq t (i + 1) (o_app N 3 (dgs ((p.getD i 0 : Nat) : Int))) (by omega) (o_ok_app hN) (fun j hj => by rw [o_app_n3 (by omega) (by decide)]; exact h5 j hj) (by
        rw [o_app_app, show decide (i + 1 = 0) = false from decide_eq_false (by omega)]
        exact KN)
      rw [show ((i + 1 : Nat) : Int) = (i : Int) + 1 by omega] at nx
      exact nx
    refine s162_2 ⟨⟨⟨by omega, by omega⟩, ⟨by omega, by omega⟩⟩, fun h => by omega, fun _ => ⟨⟨by omega, by omega⟩, fun h => by omega, fun _ => ⟨⟨by omega, by omega⟩, fun h0 => ⟨⟨by omega, by omega⟩, go M hO h51 ?_⟩, fun h0 => sp_put out3 hO ⟨by omega, by omega⟩ (s162_29 ⟨⟨by omega, by omega⟩, go _ (o_ok_put hO) (fun j hj => by rw [o_put_n3 (by omega) (by decide)]; exact h51 j hj) ?_⟩)⟩⟩⟩
    · rw [show decide (i = 0) = true from decide_eq_true (by omega)] at K
      exact K
    · rw [show decide (i = 0) = false from decide_eq_false (by omega)] at K
      exact K
theorem sp_writeCover {p : List Nat} (hp : p.length ≤ 10) (hq : ∀ i : Nat, i < p.length → p.getD i 0 < 12) {M : fx_M} (hO : o_ok M 3) (h51 : ∀ i : Nat, i < p.length → M 51 (i : Int) = ((p.getD i 0 : Nat) : Int)) (K : Q none (o_app M 3 (tCw true p))) : wc (kcs L xs) (d + 2) 162 [jR 50, jI p.length] M Q :=
  s162 (cw_loop hp hq p.length 0 M (by omega) hO h51 K)
/-- cover: k rules are left -/
def cvSpec (L : Nat) (xs : Nat → Int32) (Z : PZ) (n k : Nat) : Prop := ∀ (d : Nat) (Q : Option fx_V → fx_M → Prop) (p : List Nat) (r left l : Nat) (M : fx_M), r + k = Z.2.2.2.1.length → left < 512 → p.length + popc left ≤ 9 → (∀ i : Nat, i < p.length → p.getD i 0 < 12) → cz M 11 Z → o_ok M 3 → M 50 2 = n → M 50 3 = l → l ≤ n → (∀ i : Nat, i < p.length → M 51 (i : Int) = ((p.getD i 0 : Nat) : Int)) → (∀ M', cwr M M' (tCs ((cvL ((rmS Z).drop r) r left).map (p ++ ·)) (n - l)) → M' 50 2 = n → M' 50 3 = lsC n l (cvL ((rmS Z).drop r) r left).length → (∀ i : Nat, i < p.length → M' 51 (i : Int) = ((p.getD i 0 : Nat) : Int)) → Q none M') → wc (kcs L xs) (d + k + 4) 161 [jR 50, jI r, jI left, jI p.length] M Q
theorem cv_loop (ho : pz_ok Z) {n : Nat} (hn : n ≤ 1000) {p : List Nat} {left : Nat} (hl : left < 512) (h0 : left ≠ 0) (hp : p.length + popc left ≤ 9) (hq : ∀ i : Nat, i < p.length → p.getD i 0 < 12) : ∀ (k : Nat), (∀ k', k' < k → cvSpec L xs Z n k') → ∀ (d r l : Nat) (Q : Option fx_V → fx_M → Prop) (M : fx_M), r + k = Z.2.2.2.1.length → cz M 11 Z → o_ok M 3 → M 50 2 = n → M 50 3 = l → l ≤ n + 1 → (∀ i : Nat, i < p.length → M 51 (i : Int) = ((p.getD i 0 : Nat) : Int)) → (∀ M', cwr M M' (tCs ((cvL ((rmS Z).drop r) r left).map (p ++ ·)) (n - l)) → M' 50 2 = n → M' 50 3 = lsC n l (cvL ((rmS Z).drop r) r left).length → (∀ i : Nat, i < p.length → M' 51 (i : Int) = ((p.getD i 0 : Nat) : Int)) → Q none M') → wp (kcs L xs) (d + k + 4) 161 43 [some (jR 50), none, some (jI left), some (jI p.length), some (jI r)] [] M Q
  | 0, _, d, r, l, Q, M, hr, hz, hO, h2, h3, hln, h51, K => by
    have h12 := ho.2.2.2.2.2.2.1
    refine s161_43 ?_
    rw [hz.2.2.2.2.1]
    refine ⟨⟨⟨by omega, by omega⟩, ⟨by omega, by omega⟩⟩, fun _ => ?_, fun h => by omega⟩
    rw [rmS_all (by omega), cvL_nil h0] at K
    exact K M (by simpa [tCs] using cwr_rf) h2 (by rw [h3]; show (l : Int) = ((lsC n l 0 : Nat) : Int); unfold lsC; rw [if_pos (by omega)]; omega) h51
  | k + 1, ih, d, r, l, Q, M, hr, hz, hO, h2, h3, hln, h51, K => by
    have h12 := ho.2.2.2.2.2.2.1
    have hrl : r < Z.2.2.2.1.length := by omega
    have hR : Z.2.2.2.1[r]? = some Z.2.2.2.1[r] := List.getElem?_eq_getElem hrl
    have hRm : Z.2.2.2.1[r] ∈ Z.2.2.2.1 := List.getElem_mem hrl
    have hc9 := pr_c9 ho hRm
    have hm9 := nar_lt hc9
    have hm0 := nar_ne hc9 (ho.2.2.2.2.2.2.2.1 _ hRm).2.2.2.2.1
    have ea : M 16 (r : Int) = ((nar Z.2.2.2.1[r].2.2 : Nat) : Int) := by
      rw [← (area_nar (fun c hc => by have := hc9 c hc; omega)).1]
      exact (hz.2.2.2.2.2.1 r _ hR).2.2.2.2
    refine s161_43 ?_
    rw [hz.2.2.2.2.1, h2, h3, ea, anb_fx hm9 hl]
    have h2' : anb (nar Z.2.2.2.1[r].2.2) left < 512 := anb_lt hm9
    refine ⟨⟨⟨by omega, by omega⟩, ⟨by omega, by omega⟩⟩, fun h => by omega, fun _ => ⟨⟨⟨by omega, by omega⟩, ⟨by omega, by omega⟩⟩, fun h => ?_, fun h => ⟨⟨by omega, by omega⟩, ⟨by omega, by omega⟩, fun hne => ?_, fun he => ⟨⟨by omega, by omega⟩, ⟨by omega, by omega⟩, ?_⟩⟩⟩⟩
    · refine K M ?_ h2 ?_ h51
      · rw [show n - l = 0 by omega, tCs_0]
        exact cwr_rf
      · rw [h3]
        unfold lsC
        split <;> omega
    · rw [rmS_drop hR, cvL_cons h0, if_neg (by omega), List.nil_append] at K
      have nx := cv_loop ho hn hl h0 hp hq k (fun k' hk' => ih k' (by omega)) (d + 1) (r + 1) l Q M (by omega) hz hO h2 h3 hln h51 K
      rw [show d + 1 + k + 4 = d + (k + 1) + 4 by omega, show ((r + 1 : Nat) : Int) = (r : Int) + 1 by omega] at nx
      exact nx
    · have he' : anb (nar Z.2.2.2.1[r].2.2) left = 0 := by omega
      rw [rmS_drop hR, cvL_cons h0, if_pos he'] at K
      rw [anb_fx hl hm9]
      have hpp := popc_anb hl hm9 hm0 he'
      have hq1 := cwr_up (M := M) (a := 51) (k := (p.length : Int)) (v := (r : Int)) (by unfold csc; omega)
      have eg : ∀ i : Nat, i < p.length → (p ++ [r]).getD i 0 = p.getD i 0 := fun i hi => by
        rw [List.getD_eq_getElem?_getD, List.getD_eq_getElem?_getD, List.getElem?_append_left hi]
      have eg2 : (p ++ [r]).getD p.length 0 = r := by
        rw [List.getD_eq_getElem?_getD, List.getElem?_append_right (Nat.le_refl _), Nat.sub_self]
        rfl
      have sp := ih k (by omega) (d) (fun v M1 => wp (kcs L xs) (d + (k + 1) + 4) 161 116 [some (jR 50), none, some (jI left), some (jI p.length), some (jI r)] (v.toList ++ []) M1 Q) (p ++ [r]) (r + 1) (anb left (nar Z.2.2.2.1[r].2.2)) l (fx_up M 51 (p.length : Int) (r : Int)) (by omega) (anb_lt hl) (by rw [List.length_append, List.length_singleton]; omega) (fun i hi => by
        rw [List.length_append, List.length_singleton] at hi
        by_cases hip : i < p.length
        · rw [eg i hip]
          exact hq i hip
        · rw [show i = p.length by omega, eg2]
          omega) (cz_cwr hz hq1) (cwr_ok hq1 hO) (by rw [fx_up_na (by decide)]; exact h2) (by rw [fx_up_na (by decide)]; exact h3) (by omega) (fun i hi => by
        rw [List.length_append, List.length_singleton] at hi
        by_cases hip : i < p.length
        · rw [eg i hip, fx_up_nk (by omega)]
          exact h51 i hip
        · rw [show i = p.length by omega, eg2, fx_up_self])
      rw [show d + k + 4 = d + (k + 1) + 3 by omega, List.length_append, List.length_singleton, show ((r + 1 : Nat) : Int) = (r : Int) + 1 by omega, show ((p.length + 1 : Nat) : Int) = (p.length : Int) + 1 by omega] at sp
      refine sp (fun M' f1 f2 f3 f4 => s161_116 ?_)
      have f5 := cwr_tr hq1 f1
      rw [List.nil_append] at f5
      have nx := cv_loop ho hn hl h0 hp hq k (fun k' hk' => ih k' (by omega)) (d + 1) (r + 1) (lsC n l (cvL ((rmS Z).drop (r + 1)) (r + 1) (anb left (nar Z.2.2.2.1[r].2.2))).length) Q M' (by omega) (cz_cwr hz f5) (cwr_ok f5 hO) f2 f3 (by unfold lsC; split <;> omega) (fun i hi => by
        rw [f4 i (by omega), eg i hi]) (fun M'' g1 g2 g3 g4 => K M'' ?_ g2 ?_ g4)
      · rw [show d + 1 + k + 4 = d + (k + 1) + 4 by omega, show ((r + 1 : Nat) : Int) = (r : Int) + 1 by omega] at nx
        exact nx
      · have f6 := cwr_tr f5 g1
        rw [List.map_append, tCs_app, List.map_map, List.length_map]
        have e1 : ((p ++ ·) ∘ (r :: ·)) = ((p ++ [r]) ++ · : List Nat → List Nat) := by
          funext x
          simp
        rw [e1]
        have e2 : n - lsC n l (cvL ((rmS Z).drop (r + 1)) (r + 1) (anb left (nar Z.2.2.2.1[r].2.2))).length = n - l - (cvL ((rmS Z).drop (r + 1)) (r + 1) (anb left (nar Z.2.2.2.1[r].2.2))).length := by
          unfold lsC
          split <;> omega
        rw [e2] at f6
        exact f6
      · rw [g3, List.length_append, List.length_map, lsC_add]
theorem cv_all (ho : pz_ok Z) {n : Nat} (hn : n ≤ 1000) : ∀ (k : Nat), cvSpec L xs Z n k := by
  intro k
  induction k using Nat.strongRecOn with
  | ind k ih =>
    intro d Q p r left l M hr hl hp hq hz hO h2 h3 hln h51 K
    have h12 := ho.2.2.2.2.2.2.1
    have h9 := popc_9 left
    refine s161 ⟨⟨by omega, by omega⟩, fun e => ?_, fun e => ⟨⟨by omega, by omega⟩, fun _ => ?_, fun h => by omega⟩⟩
    · have e' : left = 0 := by omega
      subst e'
      rw [cvL_0] at K
      rw [h2, h3]
      have hq1 := cwr_up (M := M) (a := 50) (k := 3) (v := (l : Int) + 1) (by unfold csc; omega)
      have f3 : lsC n l ([[]] : List (List Nat)).length = l + 1 := by
        unfold lsC
        rw [List.length_singleton, if_pos (by omega)]
      rw [f3] at K
      refine ⟨⟨⟨by omega, by omega⟩, ⟨by omega, by omega⟩⟩, fun h => K _ ?_ ?_ ?_ ?_, fun h => ?_⟩
      · rw [show n - l = 0 by omega, tCs_0]
        exact hq1
      · rw [fx_up_nk (by decide)]
        exact h2
      · rw [fx_up_self]
        omega
      · intro i hi
        rw [fx_up_na (by decide)]
        exact h51 i hi
      · refine (show d + k + 3 = d + k + 1 + 2 by omega) ▸ sp_writeCover (by omega) hq (cwr_ok hq1 hO) (fun i hi => by rw [fx_up_na (by decide)]; exact h51 i hi) (s161_39 (K _ ?_ ?_ ?_ ?_))
        · have e3 : tCs (([[]] : List (List Nat)).map (p ++ ·)) (n - l) = tCw true p := by
            unfold tCs
            rw [List.take_of_length_le (by simp; omega)]
            simp
          rw [e3]
          have := cwr_tr hq1 (cwr_app (cs := tCw true p))
          rw [List.nil_append] at this
          exact this
        · rw [o_app_n3 (by omega) (by decide), fx_up_nk (by decide)]
          exact h2
        · rw [o_app_n3 (by omega) (by decide), fx_up_self]
          omega
        · intro i hi
          rw [o_app_n3 (by omega) (by decide), fx_up_na (by decide)]
          exact h51 i hi
    · exact cv_loop ho hn hl (by omega) hp hq k ih d r l Q M hr hz hO h2 h3 (by omega) h51 K
theorem sp_coverList {M : fx_M} (ho : pz_ok Z) (hz : cz M 11 Z) (hO : o_ok M 3) {n : Nat} (hn : n < 1000) (K0 : 100 < n → Q none (o_app M 3 [110, 111, 32, 110, 117, 109, 98, 101, 114])) (K1 : n ≤ 100 → ∀ M', cwr M M' (tCov Z n) → Q none M') : wc (kcs L xs) (d + 17) 160 [jR 50, jI n] M Q := by
  have h9 := pz_n ho
  have h12 := ho.2.2.2.2.2.2.1
  have hw9 := wl_lt ho
  refine s160 ?_
  rw [hz.2.2.1, wl_fx ho]
  refine ⟨⟨by omega, by omega⟩, fun hle => ?_, fun h => sp_puts (d := d + 12) out3 lt_1000115 hO (s160_15 (K0 (by omega)))⟩
  have hq1 := cwr_up (M := M) (a := 50) (k := 2) (v := (n : Int)) (by unfold csc; omega)
  have hq2 := cwr_0 (cwr_tr hq1 (cwr_up (a := 50) (k := 3) (v := 0) (by unfold csc; omega)))
  have sp := cv_all (L := L) (xs := xs) (Z := Z) ho (n := n) (by omega) Z.2.2.2.1.length (d + 12 - Z.2.2.2.1.length) (fun v M1 => wp (kcs L xs) (d + 17) 160 43 [some (jR 50), none] (v.toList ++ []) M1 Q) [] 0 (wl Z) 0 (fx_up (fx_up M 50 2 (n : Int)) 50 3 0) (by omega) hw9 (by simpa using popc_9 (wl Z)) (fun i hi => by simp at hi) (cz_cwr hz hq2) (cwr_ok hq2 hO) (by rw [fx_up_nk (by decide), fx_up_self]) (by rw [fx_up_self]; rfl) (by omega) (fun i hi => by simp at hi) (fun M' f1 f2 f3 _ => s160_43 ?_)
  · rw [show d + 12 - Z.2.2.2.1.length + Z.2.2.2.1.length + 4 = d + 16 by omega] at sp
    exact sp
  · have f4 := cwr_tr hq2 f1
    rw [List.nil_append, List.drop_zero, show ((cvL (rmS Z) 0 (wl Z)).map ([] ++ ·)) = covs Z by simp [covs], Nat.sub_zero] at f4
    rw [List.drop_zero, show cvL (rmS Z) 0 (wl Z) = covs Z from rfl] at f3
    have b3 : lsC n 0 (covs Z).length ≤ n + 1 ∧ (n < lsC n 0 (covs Z).length ↔ n < (covs Z).length) := by
      unfold lsC
      split <;> omega
    have hO' := cwr_ok f4 hO
    rw [f2, f3]
    refine ⟨⟨⟨by omega, by omega⟩, ⟨by omega, by omega⟩⟩, fun h => sp_puts (d := d + 12) out3 lt_1000119 hO' (s160_68 (K1 (by omega) _ ?_)), fun h => sp_puts (d := d + 12) out3 lt_1000117 hO' (s160_68 (K1 (by omega) _ ?_))⟩
    · unfold tCov
      rw [if_neg (by omega)]
      exact cwr_tr f4 ((show ([97, 108, 108] : List Int32).map Int32.toInt = wls 6384748 by decide +kernel) ▸ cwr_app)
    · unfold tCov
      rw [if_pos (by omega)]
      exact cwr_tr f4 ((show ([109, 111, 114, 101] : List Int32).map Int32.toInt = wls 1836020325 by decide +kernel) ▸ cwr_app)
end CCV
