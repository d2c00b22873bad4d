/-! COUNTING by cells: the sum over a cell's symbols; parts that no rule joins. -/
def cL (Z : PZ) : (Nat → Nat) → List Nat → Nat
  | _, [] => 1
  | S, c :: t => ([0, 1, 2, 3].map fun y : Nat => if (S c).testBit y && canA Z (s_only S c y) (2 ^ c) then cL Z (s_only S c y) t else 0).sum
theorem sum4 {f g : Nat → Nat} (h : ∀ y, y < 4 → f y = g y) : (([0, 1, 2, 3] : List Nat).map f).sum = (([0, 1, 2, 3] : List Nat).map g).sum := by
  simp only [List.map_cons, List.map_nil, List.sum_cons, List.sum_nil]
  rw [h 0 (by decide), h 1 (by decide), h 2 (by decide), h 3 (by decide)]
theorem sum4_mul {f : Nat → Nat} {k : Nat} : (([0, 1, 2, 3] : List Nat).map fun y => f y * k).sum = (([0, 1, 2, 3] : List Nat).map f).sum * k := by
  simp only [List.map_cons, List.map_nil, List.sum_cons, List.sum_nil, Nat.add_mul, Nat.zero_mul]
theorem sum4_mull {f : Nat → Nat} {k : Nat} : (([0, 1, 2, 3] : List Nat).map fun y => k * f y).sum = k * (([0, 1, 2, 3] : List Nat).map f).sum := by
  simp only [List.map_cons, List.map_nil, List.sum_cons, List.sum_nil, Nat.mul_add, Nat.mul_zero]
theorem cL_le {Z : PZ} : ∀ {t : List Nat} {S : Nat → Nat}, cL Z S t ≤ 4 ^ t.length
  | [], S => by simp [cL]
  | c :: t, S => by
    have h : ∀ y : Nat, (if (S c).testBit y && canA Z (s_only S c y) (2 ^ c) then cL Z (s_only S c y) t else 0) ≤ 4 ^ t.length := fun y => by
      split
      · exact cL_le
      · exact Nat.zero_le _
    unfold cL
    simp only [List.map_cons, List.map_nil, List.sum_cons, List.sum_nil, List.length_cons]
    have h0 := h 0
    have h1 := h 1
    have h2 := h 2
    have h3 := h 3
    rw [Nat.pow_succ]
    omega
theorem canM_loc {w : Int} {R : PR} {S T : Nat → Nat} (h : ∀ c ∈ R.2.2, S c.toNat = T c.toNat) : canM w R S = canM w R T := by
  unfold canM msk
  rw [List.map_congr_left h]
/-- only the cells of rules that touch the list matter -/
theorem cL_loc {Z : PZ} (ho : pz_ok Z) : ∀ {D : List Nat} {S T : Nat → Nat}, (∀ d ∈ D, S d = T d) → (∀ R ∈ Z.2.2.2.1, (∃ d ∈ D, (d : Int) ∈ R.2.2) → ∀ c ∈ R.2.2, S c.toNat = T c.toNat) → cL Z S D = cL Z T D
  | [], S, T, _, _ => rfl
  | d :: D, S, T, h1, h2 => by
    unfold cL
    apply sum4
    intro y hy
    have e1 := h1 d (List.mem_cons_self ..)
    have e2 : canA Z (s_only S d y) (2 ^ d) = canA Z (s_only T d y) (2 ^ d) := by
      unfold canA
      rw [Bool.eq_iff_iff, List.all_eq_true, List.all_eq_true]
      have : ∀ R ∈ Z.2.2.2.1, (!tch R (2 ^ d) || canM Z.1 R (s_only S d y)) = (!tch R (2 ^ d) || canM Z.1 R (s_only T d y)) := fun R hR => by
        cases ht : tch R (2 ^ d) with
        | false => rfl
        | true =>
          have hc := (rule_cells ho hR).1
          have h9 := pz_n ho
          have hm := (tch_pow (fun c hc2 => by have := hc c hc2; omega)).mp ht
          rw [canM_loc (fun c hc2 => ?_)]
          have := h2 R hR ⟨d, List.mem_cons_self .., hm⟩ c hc2
          unfold s_only
          split
          · rfl
          · exact this
      exact ⟨fun h R hR => by rw [← this R hR]; exact h R hR, fun h R hR => by rw [this R hR]; exact h R hR⟩
    have e3 : cL Z (s_only S d y) D = cL Z (s_only T d y) D := cL_loc ho (fun c hc => by
      unfold s_only
      split
      · rfl
      · exact h1 c (List.mem_cons_of_mem _ hc)) (fun R hR hx c hc => by
      obtain ⟨q, hq, hq2⟩ := hx
      have := h2 R hR ⟨q, List.mem_cons_of_mem _ hq, hq2⟩ c hc
      unfold s_only
      split
      · rfl
      · exact this)
    rw [e1, e2, e3]
/-- parts that no rule joins are counted apart -/
theorem cL_split {Z : PZ} (ho : pz_ok Z) {q : Nat → Bool} : ∀ {D : List Nat} {S : Nat → Nat}, D.Nodup → (∀ R ∈ Z.2.2.2.1, ∀ a ∈ D, ∀ b ∈ D, (a : Int) ∈ R.2.2 → (b : Int) ∈ R.2.2 → q a = q b) → cL Z S D = cL Z S (D.filter q) * cL Z S (D.filter (fun c => !q c))
  | [], S, _, _ => rfl
  | d :: D, S, hn, h => by
    obtain ⟨hd, hn⟩ := List.nodup_cons.mp hn
    have hD : ∀ R ∈ Z.2.2.2.1, ∀ a ∈ D, ∀ b ∈ D, (a : Int) ∈ R.2.2 → (b : Int) ∈ R.2.2 → q a = q b := fun R hR a ha b hb => h R hR a (List.mem_cons_of_mem _ ha) b (List.mem_cons_of_mem _ hb)
    -- a list on the other side of d does not see d's symbol
    have loc : ∀ (f : Nat → Bool) (y : Nat), (∀ c ∈ D, f c = true → q c ≠ q d) → cL Z (s_only S d y) (D.filter f) = cL Z S (D.filter f) := fun f y hf => cL_loc ho (fun c hc => by
      obtain ⟨h1, h2⟩ := List.mem_filter.mp hc
      unfold s_only
      rw [if_neg (fun e : c = d => hd (by rw [← e]; exact h1))]) (fun R hR hx c hc => by
      obtain ⟨b, hb, hb2⟩ := hx
      obtain ⟨h1, h2⟩ := List.mem_filter.mp hb
      unfold s_only
      rw [if_neg]
      intro e
      have hc0 := ((rule_cells ho hR).1 c hc).1
      have hcd : (d : Int) ∈ R.2.2 := by
        rw [← e, show ((c.toNat : Nat) : Int) = c by omega]
        exact hc
      exact hf b h1 h2 (h R hR b (List.mem_cons_of_mem _ h1) d (List.mem_cons_self ..) hb2 hcd))
    cases hq : q d with
    | true =>
      rw [List.filter_cons_of_pos hq, List.filter_cons_of_neg (by simp [hq])]
      rw [cL, cL, ← sum4_mul]
      apply sum4
      intro y hy
      split
      · rw [cL_split ho hn hD, loc (fun c => !q c) y (fun c _ hc => by rw [hq]; simpa using hc)]
      · simp
    | false =>
      rw [List.filter_cons_of_neg (by simp [hq]), List.filter_cons_of_pos (by simp [hq])]
      rw [cL, cL, ← sum4_mull]
      apply sum4
      intro y hy
      split
      · rw [cL_split ho hn hD, loc q y (fun c _ hc => by rw [hq]; simpa using hc)]
      · simp
theorem cnt4 {α : Type} {P : α → Bool} {f : α → Int} : ∀ {l : List α}, (∀ x ∈ l, 0 ≤ f x ∧ f x < 4) → (l.filter P).length = (([0, 1, 2, 3] : List Nat).map fun (y : Nat) => (l.filter fun x => P x && decide (f x = (y : Int))).length).sum
  | [], _ => rfl
  | x :: l, h => by
    have ih := cnt4 (P := P) (f := f) (l := l) (fun y hy => h y (List.mem_cons_of_mem _ hy))
    have hx := h x (List.mem_cons_self ..)
    simp only [List.map_cons, List.map_nil, List.sum_cons, List.sum_nil] at ih ⊢
    simp only [List.filter_cons]
    cases hP : P x with
    | false => simpa using ih
    | true =>
      have hc : f x = 0 ∨ f x = 1 ∨ f x = 2 ∨ f x = 3 := by omega
      rcases hc with e | e | e | e <;> simp [e] <;> simp at ih <;> omega
theorem okS_only {Z : PZ} {S : Nat → Nat} {c y : Nat} {x : List Int} (hc : c < x.length) (hv : 0 ≤ x.getD c 0) : (okS Z S x && decide (x.getD c 0 = (y : Int))) = ((S c).testBit y && okS Z (s_only S c y) x) := by
  rw [Bool.eq_iff_iff, Bool.and_eq_true, Bool.and_eq_true, okS_iff, okS_iff]
  constructor
  · rintro ⟨⟨h1, h2⟩, h3⟩
    have h3 := of_decide_eq_true h3
    refine ⟨?_, fun i hi => ?_, h2⟩
    · have := h1 c hc
      rw [h3, Int.toNat_natCast] at this
      exact this
    · unfold s_only
      split
      · next e => rw [e, h3, Int.toNat_natCast, pow_bit]; exact decide_eq_true rfl
      · exact h1 i hi
  · rintro ⟨h1, h2, h3⟩
    have h4 := h2 c hc
    unfold s_only at h4
    rw [if_pos rfl, pow_bit] at h4
    have h4 := of_decide_eq_true h4
    refine ⟨⟨fun i hi => ?_, h3⟩, decide_eq_true (by omega)⟩
    by_cases e : i = c
    · rw [e, h4]
      exact h1
    · have := h2 i hi
      unfold s_only at this
      rw [if_neg e] at this
      exact this
theorem ansS_mem {Z : PZ} {S : Nat → Nat} {x : List Int} (h : x ∈ ansS Z S) : (x.length = (Z.1 * Z.2.1).toNat ∧ ∀ i : Nat, i < x.length → 0 ≤ x.getD i 0 ∧ x.getD i 0 < 4) ∧ okS Z S x = true := by
  obtain ⟨⟨t, ht, e⟩, h2⟩ := mem_sbx.mp h
  subst e
  obtain ⟨h3, h4⟩ := mem_fils.mp ht
  rw [List.nil_append] at *
  exact ⟨⟨h3, fun i hi => h4 _ (getD_mem hi)⟩, h2⟩
theorem ansS_nil {Z : PZ} (ho : pz_ok Z) {S : Nat → Nat} {t : Nat} (h : canA Z S t = false) : ansS Z S = [] := by
  cases e : ansS Z S with
  | nil => rfl
  | cons x l =>
    obtain ⟨⟨h1, h2⟩, h3⟩ := ansS_mem (Z := Z) (S := S) (x := x) (by rw [e]; exact List.mem_cons_self ..)
    have h9 := pz_n ho
    have := okS_can ho h3 (by rw [h1]; omega) h2 t
    rw [this] at h
    cases h
theorem ansS_eq {Z : PZ} {S : Nat → Nat} : ansS Z S = (fils (Z.1 * Z.2.1).toNat).filter (okS Z S) := by
  unfold ansS sbx
  simp
theorem ansS_sum {Z : PZ} {S : Nat → Nat} {c : Nat} (hc : c < (Z.1 * Z.2.1).toNat) : (ansS Z S).length = (([0, 1, 2, 3] : List Nat).map fun y => if (S c).testBit y then (ansS Z (s_only S c y)).length else 0).sum := by
  rw [ansS_eq, cnt4 (f := fun x => x.getD c 0) (fun x hx => by
    obtain ⟨h1, h2⟩ := mem_fils.mp hx
    exact h2 _ (getD_mem (by omega)))]
  apply sum4
  intro y hy
  rw [ansS_eq]
  have : (fils (Z.1 * Z.2.1).toNat).filter (fun x => okS Z S x && decide (x.getD c 0 = (y : Int))) = (fils (Z.1 * Z.2.1).toNat).filter (fun x => (S c).testBit y && okS Z (s_only S c y) x) := by
    apply List.filter_congr
    intro x hx
    obtain ⟨h1, h2⟩ := mem_fils.mp hx
    exact okS_only (by omega) (h2 _ (getD_mem (by omega))).1
  rw [this]
  cases (S c).testBit y with
  | true => simp
  | false => simp
/-- all rules can be met, whatever is asked -/
def canE (Z : PZ) (S : Nat → Nat) : Prop := ∀ R ∈ Z.2.2.2.1, canM Z.1 R S = true
theorem canE_of {Z : PZ} (ho : pz_ok Z) {S : Nat → Nat} {n : Nat} (hn : Z.1 * Z.2.1 ≤ n) (h : canA Z S (2 ^ n - 1) = true) : canE Z S := fun R hR => by
  obtain ⟨hc, -, h1⟩ := rule_cells ho hR
  have h9 := pz_n ho
  have := List.all_eq_true.mp h R hR
  have ht : tch R (2 ^ n - 1) = true := by
    unfold tch
    rw [decide_eq_true_iff]
    obtain ⟨c, hm⟩ : ∃ c, c ∈ R.2.2 := ⟨R.2.2.getD 0 0, getD_mem (by omega)⟩
    have hcb := hc c hm
    intro e
    have e2 := congrArg (fun a => a.testBit c.toNat) e
    simp only [Nat.testBit_and, m1_bit, Nat.zero_testBit] at e2
    rw [(nar_mem (fun x hx => by have := hc x hx; omega) hcb.1).mpr hm, decide_eq_true (show c.toNat < n by omega)] at e2
    cases e2
  rw [ht] at this
  simpa using this
theorem canE_only {Z : PZ} (ho : pz_ok Z) {S : Nat → Nat} {c y : Nat} (h : canE Z S) (h2 : canA Z (s_only S c y) (2 ^ c) = true) : canE Z (s_only S c y) := fun R hR => by
  have h9 := pz_n ho
  obtain ⟨hc, -, -⟩ := rule_cells ho hR
  have h3 := List.all_eq_true.mp h2 R hR
  cases ht : tch R (2 ^ c) with
  | true =>
    rw [ht] at h3
    simpa using h3
  | false =>
    rw [← h R hR]
    apply canM_loc
    intro b hb
    unfold s_only
    rw [if_neg]
    intro e
    have hb0 := (hc b hb).1
    have : tch R (2 ^ c) = true := (tch_pow (fun x hx => by have := hc x hx; omega)).mpr (by
      rw [← e, show ((b.toNat : Nat) : Int) = b by omega]
      exact hb)
    rw [this] at ht
    cases ht
/-- a list of cells is counted as the fillings are, if the other cells have one symbol -/
theorem cL_ans {Z : PZ} (ho : pz_ok Z) : ∀ {D : List Nat} {S : Nat → Nat}, canE Z S → (∀ d ∈ D, d < (Z.1 * Z.2.1).toNat) → (∀ i, i < (Z.1 * Z.2.1).toNat → i ∉ D → ∃ y, y < 4 ∧ S i = 2 ^ y) → cL Z S D = (ansS Z S).length
  | [], S, hE, _, h1 => by
    have h9 := pz_n ho
    -- the one filling
    have hex : ∃ x : List Int, x.length = (Z.1 * Z.2.1).toNat ∧ ∀ i, i < (Z.1 * Z.2.1).toNat → 0 ≤ x.getD i 0 ∧ x.getD i 0 < 4 ∧ S i = 2 ^ (x.getD i 0).toNat := by
      refine ⟨(List.range (Z.1 * Z.2.1).toNat).map (fun i => ((lowb (S i) : Nat) : Int)), by simp, fun i hi => ?_⟩
      obtain ⟨y, hy, e⟩ := h1 i hi (by simp)
      have e2 : ((List.range (Z.1 * Z.2.1).toNat).map (fun i => ((lowb (S i) : Nat) : Int))).getD i 0 = ((lowb (S i) : Nat) : Int) := by
        rw [List.getD_eq_getElem?_getD, List.getElem?_map, List.getElem?_range hi]
        rfl
      rw [e2, e, show lowb (2 ^ y) = y from (low_pow ⟨y, by omega⟩).1]
      exact ⟨by omega, by omega, by rw [Int.toNat_natCast]⟩
    obtain ⟨x, hl, hx⟩ := hex
    have hok : okS Z S x = true := okS_iff.mpr ⟨fun i hi => by
      rw [(hx i (by omega)).2.2, pow_bit]
      exact decide_eq_true rfl, fun R hR => by
      obtain ⟨hc, hn, -⟩ := rule_cells ho hR
      obtain ⟨f, hf1, hf2⟩ := (canM_f hn).mp (hE R hR)
      have : R.2.2.map f = selx x R.2.2 := by
        unfold selx
        apply List.map_congr_left
        intro c hc2
        have h3 := sym4_mem.mp (hf1 c hc2)
        have h4 := hc c hc2
        have h5 := hx c.toNat (by omega)
        rw [h5.2.2, pow_bit] at h3
        have h6 := of_decide_eq_true h3.2.2
        omega
      rw [← this]
      exact hf2⟩
    have hin : x ∈ ansS Z S := mem_sbx.mpr ⟨⟨x, mem_fils.mpr ⟨hl, fun y hy => by
      obtain ⟨i, hi, e⟩ := mem_getD hy
      have := hx i (by omega)
      omega⟩, rfl⟩, hok⟩
    have huq : ∀ z ∈ ansS Z S, z = x := fun z hz => by
      obtain ⟨⟨z1, z2⟩, z3⟩ := ansS_mem hz
      apply List.ext_getElem (by omega)
      intro i i1 i2
      have h3 := (okS_iff.mp z3).1 i i1
      have h5 := hx i (by omega)
      rw [h5.2.2, pow_bit] at h3
      have h6 := of_decide_eq_true h3
      have h7 := z2 i i1
      have e1 : z.getD i 0 = z[i] := by rw [List.getD_eq_getElem?_getD, List.getElem?_eq_getElem i1]; rfl
      have e2 : x.getD i 0 = x[i] := by rw [List.getD_eq_getElem?_getD, List.getElem?_eq_getElem i2]; rfl
      omega
    have hnd : (ansS Z S).Nodup := nodup_sbx
    match e : ansS Z S, hin, huq, hnd with
    | [], hin, _, _ => cases hin
    | [a], _, _, _ => rfl
    | a :: b :: l, _, huq, hnd =>
      exfalso
      have h1 := huq a (List.mem_cons_self ..)
      have h2 := huq b (List.mem_cons_of_mem _ (List.mem_cons_self ..))
      exact (List.nodup_cons.mp hnd).1 (by rw [h1, ← h2]; exact List.mem_cons_self ..)
  | c :: D, S, hE, hD, h1 => by
    rw [ansS_sum (hD c (List.mem_cons_self ..)), cL]
    apply sum4
    intro y hy
    cases hb : (S c).testBit y with
    | false => simp
    | true =>
      cases hc : canA Z (s_only S c y) (2 ^ c) with
      | false =>
        rw [ansS_nil ho hc]
        simp
      | true =>
        simp only [Bool.and_self, if_true]
        exact cL_ans ho (canE_only ho hE hc) (fun d hd => hD d (List.mem_cons_of_mem _ hd)) (fun i hi hn => by
          by_cases e : i = c
          · exact ⟨y, hy, by unfold s_only; rw [if_pos e]⟩
          · obtain ⟨z, hz, e2⟩ := h1 i hi (by simp [e, hn])
            exact ⟨z, hz, by unfold s_only; rw [if_neg e]; exact e2⟩)
