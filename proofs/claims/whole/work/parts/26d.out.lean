/-! What can be taken out of a standing: as functions; the reference's findOut, findFirst, goOn. -/
/-- a symbol of a cell that no way of the rules has -/
def isOut (Z : PZ) (R : PR) (s : Option PR) (S : Nat → Nat) (c : Int) (y : Nat) : Prop := (S c.toNat).testBit y = true ∧ ¬ ∃ f, fit S (jnC R s) f ∧ okf Z R s f ∧ f c = (y : Int)
noncomputable def ouH (Z : PZ) (R : PR) (s : Option PR) (S : Nat → Nat) (c : Int) : Option Nat := (List.range 4).find? fun y => @decide (isOut Z R s S c y) (Classical.propDecidable _)
/-- the first of some cells that has one -/
noncomputable def fCl (Z : PZ) (R : PR) (s : Option PR) (S : Nat → Nat) : List Int → Option (Int × Nat)
  | [] => none
  | c :: t => match ouH Z R s S c with
    | some y => some (c, y)
    | none => fCl Z R s S t
/-- the first rule that has one -/
noncomputable def fO1 (Z : PZ) (S : Nat → Nat) : List PR → Nat → Option (Nat × Int × Nat)
  | [], _ => none
  | R :: t, r => match fCl Z R none S (jnC R none) with
    | some q => some (r, q)
    | none => fO1 Z S t (r + 1)
theorem ouH_bits {Z : PZ} {R : PR} {s : Option PR} {S : Nat → Nat} {c : Int} {g : Nat} (h16 : g < 16) (h : ∀ y : Nat, y < 4 → (g.testBit y = true ↔ isOut Z R s S c y)) : (g = 0 → ouH Z R s S c = none) ∧ (g ≠ 0 → ouH Z R s S c = some (lowb g)) := by
  constructor
  · intro h0
    unfold ouH
    rw [List.find?_eq_none]
    intro y hy hd
    have hd2 : isOut Z R s S c y := @of_decide_eq_true _ (Classical.propDecidable _) hd
    rw [← h y (List.mem_range.mp hy), h0] at hd2
    simp at hd2
  · intro h0
    obtain ⟨l1, l2, l3⟩ := low_16 ⟨g, h16⟩ h0
    simp only at l1 l2 l3
    unfold ouH
    rw [List.find?_range_eq_some]
    refine ⟨@decide_eq_true _ (Classical.propDecidable _) ((h _ l1).mp l2), List.mem_range.mpr l1, fun j hj => ?_⟩
    have := l3 ⟨j, by omega⟩ hj
    simp only at this
    rw [Bool.not_eq_true', decide_eq_false_iff_not, ← h j (by omega), this]
    decide
theorem ouH_some {Z : PZ} {R : PR} {s : Option PR} {S : Nat → Nat} {c : Int} {y : Nat} (h : ouH Z R s S c = some y) : y < 4 ∧ isOut Z R s S c y := by
  unfold ouH at h
  have h1 := List.find?_some h
  have h2 := List.mem_of_find?_eq_some h
  exact ⟨List.mem_range.mp h2, @of_decide_eq_true _ (Classical.propDecidable _) h1⟩
theorem fCl_some {Z : PZ} {R : PR} {s : Option PR} {S : Nat → Nat} : ∀ {l : List Int} {c : Int} {y : Nat}, fCl Z R s S l = some (c, y) → c ∈ l ∧ y < 4 ∧ isOut Z R s S c y
  | [], c, y, h => by cases h
  | a :: t, c, y, h => by
    unfold fCl at h
    split at h
    · next z hz =>
      cases h
      have := ouH_some hz
      exact ⟨List.mem_cons_self .., this.1, this.2⟩
    · have := fCl_some h
      exact ⟨List.mem_cons_of_mem _ this.1, this.2⟩
theorem fO1_some {Z : PZ} {S : Nat → Nat} : ∀ {l : List PR} {k r : Nat} {c : Int} {y : Nat}, fO1 Z S l k = some (r, c, y) → ∃ R, l[r - k]? = some R ∧ k ≤ r ∧ c ∈ jnC R none ∧ y < 4 ∧ isOut Z R none S c y ∧ fCl Z R none S (jnC R none) = some (c, y)
  | [], k, r, c, y, h => by cases h
  | R :: t, k, r, c, y, h => by
    unfold fO1 at h
    split at h
    · next q hq =>
      cases h
      have := fCl_some hq
      exact ⟨R, by simp, Nat.le_refl _, this.1, this.2.1, this.2.2, hq⟩
    · obtain ⟨R2, h1, h2, h3⟩ := fO1_some h
      refine ⟨R2, ?_, by omega, h3⟩
      rw [show r - k = (r - (k + 1)) + 1 by omega, List.getElem?_cons_succ]
      exact h1
/-- a standing with an empty cell -/
abbrev brk (Z : PZ) (S : Nat → Nat) : Prop := ((List.range (Z.1 * Z.2.1).toNat).any fun c => decide (S c = 0)) = true
theorem brk_iff {Z : PZ} {S : Nat → Nat} : brk Z S ↔ ∃ c : Nat, (c : Int) < Z.1 * Z.2.1 ∧ S c = 0 := by
  unfold brk
  rw [List.any_eq_true]
  constructor
  · rintro ⟨c, h1, h2⟩
    exact ⟨c, by have := List.mem_range.mp h1; omega, of_decide_eq_true h2⟩
  · rintro ⟨c, h1, h2⟩
    exact ⟨c, List.mem_range.mpr (by omega), decide_eq_true h2⟩
section RGO
variable {kc : List va_E} {d : Nat} {Q : Option fx_V → fx_M → Prop} {Z : PZ} {R : PR} {r : Nat} {s : Option PR} {q : Int} {S : Nat → Nat}
/-- what the reference's findOut may change -/
def f54 (M N : fx_M) : Prop := ∀ b j, b ≠ 155 → b ≠ 157 → b ≠ 158 → ¬ (b = 133 ∧ (j = 48 ∨ (51 ≤ j ∧ j ≤ 54))) → N b j = M b j
theorem f54_of {M N : fx_M} (h : f158 M N) : f54 M N := fun b j h1 h2 h3 h4 => h b j h1 h2 h3 (fun e => h4 ⟨e.1, Or.inl e.2⟩)
theorem f54_tr {M N O : fx_M} (h1 : f54 M N) (h2 : f54 N O) : f54 M O := fun b j a1 a2 a3 a4 => (h2 b j a1 a2 a3 a4).trans (h1 b j a1 a2 a3 a4)
theorem f54_rf {M : fx_M} : f54 M M := fun _ _ _ _ _ _ => rfl
theorem mwr_54 {M N : fx_M} (h : f54 M N) : mwr M N [] := fun b j hb => by
  unfold msc at hb
  exact h b j (by omega) (by omega) (by omega) (by omega)
theorem mz_54 {M N : fx_M} {u : Int} (h : mz M u Z) (hf : f54 M N) : mz N u Z := mz_mwr h (mwr_54 hf)
theorem mst_54 {M N : fx_M} (h : mst' M Z S) (hf : f54 M N) : mst' N Z S := fun c hc => by
  rw [hf 156 _ (by decide) (by decide) (by decide) (by omega)]
  exact h c hc
theorem fo_loop (ho : pz_ok Z) (hRo : pr_ok (Z.1 * Z.2.1) R) (hs : sec Z q s) (hS : ∀ c : Nat, (c : Int) < Z.1 * Z.2.1 → S c < 16) {M : fx_M} (hm : mst' M Z S) (hj : mjt M (jnC R s)) (hp : psS M Z R s S) (K1 : ∀ c y, fCl Z R s S (jnC R s) = some (c, y) → ∀ M', f54 M M' → mjt M' (jnC R s) → M' 133 51 = c → M' 133 52 = (y : Int) → M' 133 53 = (r : Int) → M' 133 54 = q → Q (some (jI 1)) M') (K0 : fCl Z R s S (jnC R s) = none → Q (some (jI 0)) M) : ∀ (t i : Nat), i + t = (jnC R s).length → fCl Z R s S (jnC R s) = fCl Z R s S ((jnC R s).drop i) → wp kc (d + 2) 308 8 [some (jR 133), some (jI r), some (jI q), some (jI i), none] [] M Q := by
  obtain ⟨j1, j2, j3⟩ := jnC_ok ho hRo hs
  have h9 := pz_n ho
  intro t
  induction t with
  | zero =>
    intro i hi he
    refine s308_8 ?_
    rw [hj.n]
    refine ⟨⟨⟨by omega, by omega⟩, ⟨by omega, by omega⟩⟩, fun _ => K0 ?_, fun h => by omega⟩
    rw [he, List.drop_eq_nil_of_le (by omega)]
    rfl
  | succ t ih =>
    intro i hi he
    have hil : i < (jnC R s).length := by omega
    have hmem := getD_mem hil
    have hcb := j3 _ hmem
    obtain ⟨cn, ecn⟩ : ∃ cn : Nat, (jnC R s).getD i 0 = (cn : Int) := ⟨((jnC R s).getD i 0).toNat, by omega⟩
    have h16 := hS cn (by omega)
    obtain ⟨m, hm16, em, hbits⟩ := hp i hil
    obtain ⟨g, eg, hgle, hg⟩ := and_not (a := S cn) (b := m) (by omega) (by omega)
    have hgb : ∀ y : Nat, y < 4 → (g.testBit y = true ↔ isOut Z R s S ((jnC R s).getD i 0) y) := fun y hy => by
      rw [hg, Bool.and_eq_true, Bool.not_eq_true', ← Bool.not_eq_true, hbits y hy]
      unfold isOut
      rw [ecn, Int.toNat_natCast]
    have hh := ouH_bits (show g < 16 by omega) hgb
    have hd : fCl Z R s S ((jnC R s).drop i) = match ouH Z R s S ((jnC R s).getD i 0) with
      | some y => some ((jnC R s).getD i 0, y)
      | none => fCl Z R s S ((jnC R s).drop (i + 1)) := by
      rw [drop_consD hil, fCl]
    have e156 : M 156 ((jnC R s).getD i 0) = (S cn : Nat) := by
      rw [ecn]
      exact hm cn (by omega)
    refine s308_8 ?_
    rw [hj.n, hj.c i hil, e156, em, eg]
    refine ⟨⟨⟨by omega, by omega⟩, ⟨by omega, by omega⟩⟩, fun h => by omega, fun _ => ⟨⟨by omega, by omega⟩, ⟨by omega, by omega⟩, ⟨by omega, by omega⟩, ⟨by omega, by omega⟩, fun hne => ⟨⟨by omega, by omega⟩, ?_⟩, fun h0 => ?_⟩⟩
    · refine sp_mlowest (by omega) (by omega) (s308_62 (K1 ((jnC R s).getD i 0) (lowb g) ?_ _ (fun b j b1 b2 b3 b4 => ?_) ⟨?_, hj.l8, fun k hk => ?_, hj.b, hj.nd⟩ ?_ ?_ ?_ ?_))
      · rw [he, hd, hh.2 (by omega)]
      · rw [fx_up_ne (by omega), fx_up_ne (by omega), fx_up_ne (by omega), fx_up_ne (by omega)]
      · rw [fx_up_nk (by decide), fx_up_nk (by decide), fx_up_nk (by decide), fx_up_nk (by decide)]
        exact hj.n
      · rw [fx_up_na (by decide), fx_up_na (by decide), fx_up_na (by decide), fx_up_na (by decide)]
        exact hj.c k hk
      · rw [fx_up_nk (by decide), fx_up_nk (by decide), fx_up_nk (by decide), fx_up_self]
      · rw [fx_up_nk (by decide), fx_up_nk (by decide), fx_up_self]
      · rw [fx_up_nk (by decide), fx_up_self]
      · rw [fx_up_self]
    · have nx := ih (i + 1) (by omega) (by rw [he, hd, hh.1 (by omega)])
      rw [show ((i + 1 : Nat) : Int) = (i : Int) + 1 by omega] at nx
      exact nx
theorem sp_findOut (ho : pz_ok Z) (hR : Z.2.2.2.1[r]? = some R) (hs : sec Z q s) (hS : ∀ c : Nat, (c : Int) < Z.1 * Z.2.1 → S c < 16) {M : fx_M} (hz : mz M 0 Z) (hm : mst' M Z S) (K1 : ∀ c y, fCl Z R s S (jnC R s) = some (c, y) → ∀ M', f54 M M' → mjt M' (jnC R s) → M' 133 51 = c → M' 133 52 = (y : Int) → M' 133 53 = (r : Int) → M' 133 54 = q → Q (some (jI 1)) M') (K0 : fCl Z R s S (jnC R s) = none → ∀ M', f54 M M' → Q (some (jI 0)) M') : wc kc (d + 5) 308 [jR 133, jI r, jI q] M Q :=
  s308 (sp_findPossible ho hR hs hS hz hm (fun M1 f1 j1 p1 => s308_6 (fo_loop (d := d + 3) ho (rule_in ho hR).1 hs hS (mst_158 hm f1) j1 p1 (fun c y e M2 f2 => K1 c y e M2 (f54_tr (f54_of f1) f2)) (fun e => K0 e M1 (f54_of f1)) (jnC R s).length 0 (by omega) rfl)))
theorem ff_loop (ho : pz_ok Z) (hS : ∀ c : Nat, (c : Int) < Z.1 * Z.2.1 → S c < 16) {M0 : fx_M} (K1 : ∀ r R c y, fO1 Z S Z.2.2.2.1 0 = some (r, c, y) → Z.2.2.2.1[r]? = some R → ∀ M', f54 M0 M' → mjt M' (jnC R none) → M' 133 51 = c → M' 133 52 = (y : Int) → M' 133 53 = (r : Int) → M' 133 54 = -1 → Q (some (jI 1)) M') (K0 : fO1 Z S Z.2.2.2.1 0 = none → ∀ M', f54 M0 M' → Q (some (jI 0)) M') : ∀ (t r : Nat) (M : fx_M), r + t = Z.2.2.2.1.length → fO1 Z S Z.2.2.2.1 0 = fO1 Z S (Z.2.2.2.1.drop r) r → f54 M0 M → mz M 0 Z → mst' M Z S → wp kc (d + 6) 307 2 [some (jR 133), some (jI r)] [] M Q := by
  have h12 := ho.2.2.2.2.2.2.1
  intro t
  induction t with
  | zero =>
    intro r M hr he hf hz hm
    refine s307_2 ?_
    rw [hz.2.2.2.1]
    refine ⟨⟨⟨by omega, by omega⟩, ⟨by omega, by omega⟩⟩, fun _ => K0 ?_ M hf, fun h => by omega⟩
    rw [he, List.drop_eq_nil_of_le (by omega)]
    rfl
  | succ t ih =>
    intro r M hr he hf hz hm
    have hrl : r < Z.2.2.2.1.length := by omega
    have hR := List.getElem?_eq_getElem hrl
    have hd : fO1 Z S (Z.2.2.2.1.drop r) r = match fCl Z Z.2.2.2.1[r] none S (jnC Z.2.2.2.1[r] none) with
      | some q => some (r, q)
      | none => fO1 Z S (Z.2.2.2.1.drop (r + 1)) (r + 1) := by
      rw [List.drop_eq_getElem_cons hrl, fO1]
    refine s307_2 ?_
    rw [hz.2.2.2.1]
    refine ⟨⟨⟨by omega, by omega⟩, ⟨by omega, by omega⟩⟩, fun h => by omega, fun _ => sp_findOut ho hR (Or.inl ⟨by omega, by omega, rfl⟩) hS hz hm (fun c y e M1 f1 j1 a1 a2 a3 a4 => s307_18 ?_) (fun e M1 f1 => s307_18 ?_)⟩
    · exact ⟨⟨by omega, by omega⟩, fun h => by omega, fun _ => K1 r _ c y (by rw [he, hd, e]) hR M1 (f54_tr hf f1) j1 a1 a2 a3 a4⟩
    · refine ⟨⟨by omega, by omega⟩, fun _ => ?_, fun h => absurd rfl h⟩
      have nx := ih (r + 1) M1 (by omega) (by rw [he, hd, e]) (f54_tr hf f1) (mz_54 hz f1) (mst_54 hm f1)
      rw [show ((r + 1 : Nat) : Int) = (r : Int) + 1 by omega] at nx
      exact nx
theorem sp_findFirst (ho : pz_ok Z) (hS : ∀ c : Nat, (c : Int) < Z.1 * Z.2.1 → S c < 16) {M : fx_M} (hz : mz M 0 Z) (hm : mst' M Z S) (K1 : ∀ r R c y, fO1 Z S Z.2.2.2.1 0 = some (r, c, y) → Z.2.2.2.1[r]? = some R → ∀ M', f54 M M' → mjt M' (jnC R none) → M' 133 51 = c → M' 133 52 = (y : Int) → M' 133 53 = (r : Int) → M' 133 54 = -1 → Q (some (jI 1)) M') (K0 : fO1 Z S Z.2.2.2.1 0 = none → ∀ M', f54 M M' → Q (some (jI 0)) M') : wc kc (d + 6) 307 [jR 133] M Q :=
  s307 (ff_loop ho hS K1 K0 Z.2.2.2.1.length 0 M (by omega) (by rw [List.drop_zero]) f54_rf hz hm)
theorem cb_loop (ho : pz_ok Z) {M : fx_M} (hz : mz M 0 Z) (hm : mst' M Z S) (hS : ∀ c : Nat, (c : Int) < Z.1 * Z.2.1 → S c < 16) (K1 : ¬ brk Z S → Q (some (jI 1)) M) (K0 : brk Z S → Q (some (jI 0)) M) : ∀ (t c : Nat), (c : Int) + t = Z.1 * Z.2.1 → (∀ k : Nat, k < c → S k ≠ 0) → wp kc (d + 2) 314 2 [some (jR 133), some (jI c)] [] M Q := by
  have h9 := pz_n ho
  intro t
  induction t with
  | zero =>
    intro c hc hk
    refine s314_2 (s248 (s314_7 ?_))
    rw [hz.1, hz.2.1]
    refine ⟨⟨⟨by omega, by omega⟩, ⟨by omega, by omega⟩⟩, fun _ => K1 ?_, fun h => by omega⟩
    intro hb
    obtain ⟨k, h1, h2⟩ := brk_iff.mp hb
    exact hk k (by omega) h2
  | succ t ih =>
    intro c hc hk
    have h16 := hS c (by omega)
    refine s314_2 (s248 (s314_7 ?_))
    rw [hz.1, hz.2.1, hm c (by omega)]
    refine ⟨⟨⟨by omega, by omega⟩, ⟨by omega, by omega⟩⟩, fun h => by omega, fun _ => ⟨⟨by omega, by omega⟩, ⟨by omega, by omega⟩, fun hne => ?_, fun h0 => K0 (brk_iff.mpr ⟨c, by omega, by omega⟩)⟩⟩
    have nx := ih (c + 1) (by omega) (fun k h => by
      by_cases e : k = c
      · rw [e]
        omega
      · exact hk k (by omega))
    rw [show ((c + 1 : Nat) : Int) = (c : Int) + 1 by omega] at nx
    exact nx
theorem sp_canBe (ho : pz_ok Z) {M : fx_M} (hz : mz M 0 Z) (hm : mst' M Z S) (hS : ∀ c : Nat, (c : Int) < Z.1 * Z.2.1 → S c < 16) (K1 : ¬ brk Z S → Q (some (jI 1)) M) (K0 : brk Z S → Q (some (jI 0)) M) : wc kc (d + 2) 314 [jR 133] M Q :=
  s314 (cb_loop ho hz hm hS K1 K0 (Z.1 * Z.2.1).toNat 0 (by have := pz_n ho; omega) (fun k h => by omega))
theorem clr_16 : ∀ (m : Fin 16) (y : Fin 4), fx_and ((m : Nat) : Int) (fx_xor (fx_shl 1 ((y : Nat) : Int)) (-1)) = ((clr (m : Nat) (y : Nat) : Nat) : Int) := by decide +kernel
theorem sp_takeOut (hS : ∀ c : Nat, (c : Int) < Z.1 * Z.2.1 → S c < 16) {M : fx_M} (hm : mst' M Z S) {c y : Nat} (hc : (c : Int) < Z.1 * Z.2.1) (h9 : Z.1 * Z.2.1 ≤ 9) (hy : y < 4) (h51 : M 133 51 = (c : Int)) (h52 : M 133 52 = (y : Int)) (K : ∀ M', (∀ b j, ¬ (b = 156 ∧ j = (c : Int)) → ¬ (b = 133 ∧ j = 59) → M' b j = M b j) → mst' M' Z (s_wo S c y) → M' 133 59 = M 133 59 + 1 → Q none M') : wc kc (d + 1) 318 [jR 133] M Q := by
  have h16 := hS c hc
  refine s318 ?_
  rw [h51, h52, hm c hc]
  have := clr_16 ⟨S c, h16⟩ ⟨y, hy⟩
  simp only at this
  rw [this]
  refine ⟨⟨by omega, by omega⟩, ⟨by omega, by omega⟩, K _ (fun b j h1 h2 => by rw [fx_up_ne h2, fx_up_ne h1]) (fun k hk => ?_) (by rw [fx_up_self])⟩
  rw [fx_up_na (by decide)]
  unfold s_wo
  by_cases e : k = c
  · subst e
    rw [fx_up_self, if_pos rfl]
  · rw [fx_up_nk (by omega), if_neg e]
    exact hm k hk
end RGO
