/-! FILLINGS of a standing; what the class's search prunes. -/
def okS (Z : PZ) (S : Nat → Nat) (x : List Int) : Bool := (List.range x.length).all (fun i => (S i).testBit (x.getD i 0).toNat) && Z.2.2.2.1.all (fun R => met Z.1 R (selx x R.2.2))
/-- the fillings of a standing that meet all rules, in order -/
def ansS (Z : PZ) (S : Nat → Nat) : List (List Int) := sbx (okS Z S) [] (Z.1 * Z.2.1).toNat
theorem okS_iff {Z : PZ} {S : Nat → Nat} {x : List Int} : okS Z S x = true ↔ (∀ i : Nat, i < x.length → (S i).testBit (x.getD i 0).toNat = true) ∧ ∀ R ∈ Z.2.2.2.1, met Z.1 R (selx x R.2.2) = true := by
  unfold okS
  rw [Bool.and_eq_true, List.all_eq_true, List.all_eq_true]
  constructor
  · rintro ⟨h1, h2⟩
    exact ⟨fun i hi => h1 i (List.mem_range.mpr hi), h2⟩
  · rintro ⟨h1, h2⟩
    exact ⟨fun i hi => h1 i (List.mem_range.mp hi), h2⟩
theorem m1_bit {s k : Nat} : (2 ^ s - 1).testBit k = decide (k < s) := Nat.testBit_two_pow_sub_one _ _
theorem ansS_first {Z : PZ} (ho : pz_ok Z) : ansS Z (s_first Z) = ans Z := by
  unfold ansS ans
  apply sbx_congr
  intro t ht
  rw [List.nil_append]
  obtain ⟨hl, hv⟩ := mem_fils.mp ht
  rw [Bool.eq_iff_iff, okS_iff, okx_iff]
  apply and_congr_left
  intro _
  constructor
  · intro h i hi
    have h1 := h i hi
    have hb := hv _ (getD_mem hi)
    have hg := giv_bb ho i
    unfold s_first at h1
    rw [if_pos (by omega)] at h1
    by_cases hg0 : 0 ≤ Z.2.2.2.2.getD i (-1)
    · rw [if_pos hg0, pow_bit] at h1
      have := of_decide_eq_true h1
      exact ⟨by omega, Or.inr (by omega)⟩
    · rw [if_neg hg0, m1_bit] at h1
      have := of_decide_eq_true h1
      exact ⟨by omega, Or.inl (by omega)⟩
  · intro h i hi
    have h1 := h i hi
    have hb := hv _ (getD_mem hi)
    have hg := giv_bb ho i
    unfold s_first
    rw [if_pos (by omega)]
    by_cases hg0 : 0 ≤ Z.2.2.2.2.getD i (-1)
    · rw [if_pos hg0, pow_bit]
      exact decide_eq_true (by omega)
    · rw [if_neg hg0, m1_bit]
      exact decide_eq_true (by omega)
/-- a standing with a prefix set -/
def rS (S : Nat → Nat) (p : List Int) : Nat → Nat := fun k => if k < p.length then 2 ^ (p.getD k 0).toNat else S k
theorem rS_nil {S : Nat → Nat} : rS S [] = S := by
  funext k
  unfold rS
  rw [if_neg (by simp)]
theorem rS_only {S : Nat → Nat} {p : List Int} {y : Nat} : s_only (rS S p) p.length y = rS S (p ++ [(y : Int)]) := by
  funext k
  unfold s_only rS
  rw [List.length_append]
  simp only [List.length_cons, List.length_nil]
  by_cases e : k = p.length
  · rw [if_pos e, if_pos (by omega), e, getD_end]
    rfl
  · rw [if_neg e]
    by_cases e2 : k < p.length
    · rw [if_pos e2, if_pos (by omega), getD_app e2]
    · rw [if_neg e2, if_neg (by omega)]
theorem tch_pow {R : PR} {k : Nat} (hR : ∀ c ∈ R.2.2, 0 ≤ c ∧ c < 31) : tch R (2 ^ k) = true ↔ (k : Int) ∈ R.2.2 := by
  have hm := nar_mem (l := R.2.2) (c := (k : Int)) hR (by omega)
  rw [Int.toNat_natCast] at hm
  rw [← hm]
  unfold tch
  rw [decide_eq_true_iff]
  constructor
  · intro h
    cases hb : (nar R.2.2).testBit k with
    | true => rfl
    | false =>
      exfalso
      apply h
      apply Nat.eq_of_testBit_eq
      intro i
      rw [Nat.testBit_and, pow_bit, Nat.zero_testBit]
      by_cases e : i = k
      · rw [e, hb]
        rfl
      · simp [e]
  · intro h e
    have := congrArg (fun a => a.testBit k) e
    simp only [Nat.testBit_and, h, pow_bit, Nat.zero_testBit] at this
    simp at this
theorem rule_cells {Z : PZ} (ho : pz_ok Z) {R : PR} (hR : R ∈ Z.2.2.2.1) : (∀ c ∈ R.2.2, 0 ≤ c ∧ c < Z.1 * Z.2.1) ∧ R.2.2.Nodup ∧ 1 ≤ R.2.2.length := by
  have h := ho.2.2.2.2.2.2.2.1 R hR
  exact ⟨h.2.2.2.2.2.2.1, h.2.2.2.2.2.2.2, h.2.2.2.2.1⟩
/-- a filling within a standing is a way of each rule -/
theorem okS_can {Z : PZ} (ho : pz_ok Z) {S : Nat → Nat} {x : List Int} (hx : okS Z S x = true) (hl : (x.length : Int) = Z.1 * Z.2.1) (hv : ∀ i : Nat, i < x.length → 0 ≤ x.getD i 0 ∧ x.getD i 0 < 4) (t : Nat) : canA Z S t = true := by
  obtain ⟨h1, h2⟩ := okS_iff.mp hx
  unfold canA
  rw [List.all_eq_true]
  intro R hR
  obtain ⟨hc, hn, -⟩ := rule_cells ho hR
  rw [Bool.or_eq_true]
  refine Or.inr ((canM_f hn).mpr ⟨fun c => x.getD c.toNat 0, fun c hcm => ?_, h2 R hR⟩)
  have := hc c hcm
  have b1 := hv c.toNat (by omega)
  exact sym4_mem.mpr ⟨b1.1, b1.2, h1 c.toNat (by omega)⟩
/-- a prefix that holds so far in a standing -/
def fnS (Z : PZ) (S : Nat → Nat) (p : List Int) : Prop := (∀ i : Nat, i < p.length → 0 ≤ p.getD i 0 ∧ p.getD i 0 < 4 ∧ (S i).testBit (p.getD i 0).toNat = true) ∧ ∀ R ∈ Z.2.2.2.1, lst R.2.2 < p.length → met Z.1 R (selx p R.2.2) = true
theorem fnS_ok {Z : PZ} (ho : pz_ok Z) {S : Nat → Nat} {p : List Int} (h : fnS Z S p) (hl : (p.length : Int) = Z.1 * Z.2.1) : okS Z S p = true :=
  okS_iff.mpr ⟨fun i hi => (h.1 i hi).2.2, fun R hR => h.2 R hR (by have := (rule_lst ho hR).2.2; omega)⟩
theorem fnS_nil {Z : PZ} (ho : pz_ok Z) {S : Nat → Nat} : fnS Z S [] := ⟨fun i hi => by simp at hi, fun R hR h => by have := (rule_lst ho hR).2.1; simp at h; omega⟩
theorem lst_mem {cs : List Int} : ∀ {l : List Int} {a : Int}, l.foldl (fun m c => if m < c then c else m) a = a ∨ l.foldl (fun m c => if m < c then c else m) a ∈ l
  | [], a => Or.inl rfl
  | c :: t, a => by
    simp only [List.foldl_cons]
    rcases lst_mem (cs := cs) (l := t) (a := if a < c then c else a) with h | h
    · rw [h]
      split
      · exact Or.inr (List.mem_cons_self ..)
      · exact Or.inl rfl
    · exact Or.inr (List.mem_cons_of_mem _ h)
theorem lst_in {cs : List Int} (h1 : 1 ≤ cs.length) (h0 : ∀ c ∈ cs, 0 ≤ c) : lst cs ∈ cs := by
  rcases lst_mem (cs := cs) (l := cs) (a := 0) with h | h
  · have hz : lst cs = 0 := h
    cases cs with
    | nil => simp at h1
    | cons c t =>
      have h3 := (lst_ge (c :: t) 0).2 c (List.mem_cons_self ..)
      have h4 := h0 c (List.mem_cons_self ..)
      have h5 : c ≤ lst (c :: t) := h3
      have : c = 0 := by omega
      rw [hz, ← this]
      exact List.mem_cons_self ..
  · exact h
theorem fnS_step {Z : PZ} (ho : pz_ok Z) {S : Nat → Nat} {p : List Int} {y : Nat} (h : fnS Z S p) (hy : y < 4) (hb : (S p.length).testBit y = true) (hf : canA Z (rS S (p ++ [(y : Int)])) (2 ^ p.length) = true) : fnS Z S (p ++ [(y : Int)]) := by
  have h9 := pz_n ho
  refine ⟨fun i hi => ?_, fun R hR hl => ?_⟩
  · rw [List.length_append] at hi
    simp only [List.length_cons, List.length_nil] at hi
    by_cases e : i < p.length
    · rw [getD_app e]
      exact h.1 i e
    · have e : i = p.length := by omega
      subst e
      rw [getD_end]
      exact ⟨by omega, by omega, hb⟩
  · have hlen : (p ++ [(y : Int)]).length = p.length + 1 := by simp
    rw [hlen] at hl
    obtain ⟨hc, hn, h1⟩ := rule_cells ho hR
    have hcl := rule_lst ho hR
    by_cases e : lst R.2.2 < p.length
    · rw [selx_app (fun c hc2 => by have := hcl.1 c hc2; omega)]
      exact h.2 R hR e
    · have e : lst R.2.2 = p.length := by omega
      have ha := List.all_eq_true.mp hf R hR
      have ht : tch R (2 ^ p.length) = true := (tch_pow (fun c hc2 => by have := hc c hc2; omega)).mpr (by
        rw [← e]
        exact lst_in h1 (fun c hc2 => (hc c hc2).1))
      rw [ht] at ha
      have hcm : canM Z.1 R (rS S (p ++ [(y : Int)])) = true := by simpa using ha
      obtain ⟨f, hf1, hf2⟩ := (canM_f hn).mp hcm
      have : R.2.2.map f = selx (p ++ [(y : Int)]) R.2.2 := by
        unfold selx
        apply List.map_congr_left
        intro c hc2
        have h3 := sym4_mem.mp (hf1 c hc2)
        have h4 := hcl.1 c hc2
        unfold rS at h3
        rw [if_pos (by rw [hlen]; omega), pow_bit] at h3
        have h5 := of_decide_eq_true h3.2.2
        have h6 : 0 ≤ (p ++ [(y : Int)]).getD c.toNat 0 := by
          by_cases e2 : c.toNat < p.length
          · rw [getD_app e2]
            exact (h.1 _ e2).1
          · have e3 : c.toNat = p.length := by omega
            rw [e3, getD_end]
            omega
        omega
      rw [← this]
      exact hf2
/-- below a prefix nothing holds -/
theorem sbx_cut {Z : PZ} (ho : pz_ok Z) {S : Nat → Nat} {p : List Int} {y m t : Nat} (hl : ((p.length + 1 + m : Nat) : Int) = Z.1 * Z.2.1) (hp : ∀ i : Nat, i < p.length → 0 ≤ p.getD i 0 ∧ p.getD i 0 < 4) (hy : y < 4) (h : (S p.length).testBit y = false ∨ canA Z (rS S (p ++ [(y : Int)])) t = false) : sbx (okS Z S) (p ++ [(y : Int)]) m = [] := by
  refine sbx_nil (fun u hu => ?_)
  rw [← Bool.not_eq_true]
  intro hk
  obtain ⟨hul, huv⟩ := mem_fils.mp hu
  have e1 : p ++ [(y : Int)] ++ u = p ++ (y : Int) :: u := by simp
  have hlen : (p ++ [(y : Int)] ++ u).length = p.length + 1 + m := by simp [hul]; omega
  have hvals : ∀ i : Nat, i < (p ++ [(y : Int)] ++ u).length → 0 ≤ (p ++ [(y : Int)] ++ u).getD i 0 ∧ (p ++ [(y : Int)] ++ u).getD i 0 < 4 := fun i hi => by
    have hm := getD_mem hi
    rcases List.mem_append.mp hm with hm | hm
    · rcases List.mem_append.mp hm with hm | hm
      · obtain ⟨j, hj, e⟩ := mem_getD hm
        rw [← e]
        exact hp j hj
      · have := List.mem_singleton.mp hm
        omega
    · exact huv _ hm
  obtain ⟨h1, h2⟩ := okS_iff.mp hk
  rcases h with h | h
  · have := h1 p.length (by rw [hlen]; omega)
    rw [e1, getD_end, Int.toNat_natCast] at this
    rw [this] at h
    cases h
  · have hk2 : okS Z (rS S (p ++ [(y : Int)])) (p ++ [(y : Int)] ++ u) = true := okS_iff.mpr ⟨fun i hi => by
      unfold rS
      by_cases e : i < (p ++ [(y : Int)]).length
      · rw [if_pos e, pow_bit, getD_app e]
        exact decide_eq_true rfl
      · rw [if_neg e]
        exact h1 i hi, h2⟩
    have := okS_can ho hk2 (by rw [hlen]; exact hl) hvals t
    rw [this] at h
    cases h
