/-! Steps: as functions; the reference's findStep. -/
/-- two rules that share a cell and have six at most -/
def neaB (R R2 : PR) : Bool := decide ((jnC R (some R2)).length < R.2.2.length + R2.2.2.length) && decide ((jnC R (some R2)).length ≤ 6)
noncomputable def fT2i (Z : PZ) (S : Nat → Nat) (R : PR) (r : Nat) : List PR → Nat → Option (Nat × Nat × Int × Nat)
  | [], _ => none
  | R2 :: t, q => match (if neaB R R2 = true then fCl Z R (some R2) S (jnC R (some R2)) else none) with
    | some x => some (r, q, x)
    | none => fT2i Z S R r t (q + 1)
noncomputable def fT2 (Z : PZ) (S : Nat → Nat) : List PR → Nat → Option (Nat × Nat × Int × Nat)
  | [], _ => none
  | R :: t, r => match fT2i Z S R r t (r + 1) with
    | some x => some x
    | none => fT2 Z S t (r + 1)
theorem fT2i_some {Z : PZ} {S : Nat → Nat} {R : PR} {r : Nat} : ∀ {l : List PR} {k r' q : Nat} {c : Int} {y : Nat}, fT2i Z S R r l k = some (r', q, c, y) → r' = r ∧ k ≤ q ∧ ∃ R2, l[q - k]? = some R2 ∧ fCl Z R (some R2) S (jnC R (some R2)) = some (c, y)
  | [], k, r', q, c, y, h => by cases h
  | R2 :: t, k, r', q, c, y, h => by
    unfold fT2i at h
    split at h
    · next x hx =>
      cases h
      split at hx
      · exact ⟨rfl, Nat.le_refl _, R2, by simp, hx⟩
      · cases hx
    · obtain ⟨h1, h2, R3, h3, h4⟩ := fT2i_some h
      refine ⟨h1, by omega, R3, ?_, h4⟩
      rw [show q - k = (q - (k + 1)) + 1 by omega, List.getElem?_cons_succ]
      exact h3
theorem fT2_some {Z : PZ} {S : Nat → Nat} : ∀ {l : List PR} {k r q : Nat} {c : Int} {y : Nat}, fT2 Z S l k = some (r, q, c, y) → k ≤ r ∧ r < q ∧ ∃ R R2, l[r - k]? = some R ∧ l[q - k]? = some R2 ∧ fCl Z R (some R2) S (jnC R (some R2)) = some (c, y)
  | [], k, r, q, c, y, h => by cases h
  | R :: t, k, r, q, c, y, h => by
    unfold fT2 at h
    split at h
    · next x hx =>
      cases h
      obtain ⟨h1, h2, R2, h3, h4⟩ := fT2i_some hx
      subst h1
      refine ⟨Nat.le_refl _, by omega, R, R2, by simp, ?_, h4⟩
      rw [show q - r = (q - (r + 1)) + 1 by omega, List.getElem?_cons_succ]
      exact h3
    · obtain ⟨h1, h2, R1, R2, h3, h4, h5⟩ := fT2_some h
      refine ⟨by omega, h2, R1, R2, ?_, ?_, h5⟩
      · rw [show r - k = (r - (k + 1)) + 1 by omega, List.getElem?_cons_succ]
        exact h3
      · rw [show q - k = (q - (k + 1)) + 1 by omega, List.getElem?_cons_succ]
        exact h4
/-- a symbol that breaks the standing when it is tried -/
def tryP (Z : PZ) (S : Nat → Nat) (c y : Nat) : Prop := (S c).testBit y = true ∧ 1 < pop4 (S c) ∧ brk Z (gOn Z 37 (s_only S c y)).1
noncomputable def fTr (Z : PZ) (S : Nat → Nat) : Nat → Nat → Option (Nat × Nat)
  | 0, _ => none
  | t + 1, i => @ite _ (tryP Z S (i / 4) (i % 4)) (Classical.propDecidable _) (some (i / 4, i % 4)) (fTr Z S t (i + 1))
theorem fTr_some {Z : PZ} {S : Nat → Nat} : ∀ {t i c y : Nat}, fTr Z S t i = some (c, y) → tryP Z S c y ∧ y < 4 ∧ 4 * c + y < i + t
  | 0, i, c, y, h => by cases h
  | t + 1, i, c, y, h => by
    unfold fTr at h
    by_cases hp : tryP Z S (i / 4) (i % 4)
    · rw [if_pos hp] at h
      cases h
      exact ⟨hp, by omega, by omega⟩
    · rw [if_neg hp] at h
      have := fTr_some h
      exact ⟨this.1, this.2.1, by omega⟩
/-- the first step: kind, rule, second rule, cell, symbol -/
noncomputable def fSt (Z : PZ) (S : Nat → Nat) : Nat × Nat × Int × Int × Nat := match fO1 Z S Z.2.2.2.1 0 with
  | some (r, c, y) => (1, r, -1, c, y)
  | none => match fT2 Z S Z.2.2.2.1 0 with
    | some (r, q, c, y) => (2, r, (q : Int), c, y)
    | none => match fTr Z S (4 * (Z.1 * Z.2.1).toNat) 0 with
      | some (c, y) => (3, 0, -1, (c : Int), y)
      | none => (0, 0, -1, 0, 0)
/-- the second rule of a step -/
def secR (Z : PZ) (q : Int) : Option PR := if q < 0 then none else some (rl Z q.toNat)
/-- a step is one of its kind: its cell has its symbol -/
theorem fSt_in {Z : PZ} (ho : pz_ok Z) {S : Nat → Nat} (h : (fSt Z S).1 ≠ 0) : (fSt Z S).1 ≤ 3 ∧ 0 ≤ (fSt Z S).2.2.2.1 ∧ (fSt Z S).2.2.2.1 < Z.1 * Z.2.1 ∧ (fSt Z S).2.2.2.2 < 4 ∧ (S (fSt Z S).2.2.2.1.toNat).testBit (fSt Z S).2.2.2.2 = true ∧ ((fSt Z S).1 < 3 → ∃ R, Z.2.2.2.1[(fSt Z S).2.1]? = some R ∧ sec Z (fSt Z S).2.2.1 (secR Z (fSt Z S).2.2.1) ∧ ((fSt Z S).1 = 1 ↔ (fSt Z S).2.2.1 = -1)) ∧ ((fSt Z S).1 = 3 → 1 < pop4 (S (fSt Z S).2.2.2.1.toNat) ∧ brk Z (gOn Z 37 (s_only S (fSt Z S).2.2.2.1.toNat (fSt Z S).2.2.2.2)).1) := by
  unfold fSt at h ⊢
  cases h1 : fO1 Z S Z.2.2.2.1 0 with
  | some x =>
    obtain ⟨r, c, y⟩ := x
    obtain ⟨R, a1, a2, a3, a4, a5, a6⟩ := fO1_in ho h1
    exact ⟨by simp, a2.1, a2.2, a3, a4, fun _ => ⟨R, a1, Or.inl ⟨by simp, by simp, by simp [secR]⟩, by simp⟩, fun h => by simp at h⟩
  | none =>
    rw [h1] at h
    cases h2 : fT2 Z S Z.2.2.2.1 0 with
    | some x =>
      obtain ⟨r, q, c, y⟩ := x
      obtain ⟨b1, b2, R, R2, b3, b4, b5⟩ := fT2_some h2
      rw [Nat.sub_zero] at b3 b4
      obtain ⟨c1, c2, c3⟩ := fCl_some b5
      have hcells : 0 ≤ c ∧ c < Z.1 * Z.2.1 := by
        rcases jnC_or c1 with h | h
        · exact (rule_cells ho (mem_at b3)).1 c h
        · exact (rule_cells ho (mem_at b4)).1 c h
      refine ⟨by simp, hcells.1, hcells.2, c2, c3.1, fun _ => ⟨R, b3, Or.inr ⟨q, R2, rfl, ?_, b4⟩, ?_⟩, fun h => by simp at h⟩
      · show secR Z (q : Int) = some R2
        unfold secR
        rw [if_neg (by omega), Int.toNat_natCast, rl_of b4]
      · show (2 : Nat) = 1 ↔ (q : Int) = -1
        omega
    | none =>
      rw [h2] at h
      cases h3 : fTr Z S (4 * (Z.1 * Z.2.1).toNat) 0 with
      | some x =>
        obtain ⟨c, y⟩ := x
        obtain ⟨d1, d2, d3⟩ := fTr_some h3
        refine ⟨by simp, by simp, ?_, d2, ?_, fun h => by simp at h, fun _ => ?_⟩
        · show (c : Int) < Z.1 * Z.2.1
          have h9 := pz_n ho
          omega
        · show (S ((c : Int)).toNat).testBit y = true
          rw [Int.toNat_natCast]
          exact d1.1
        · show 1 < pop4 (S ((c : Int)).toNat) ∧ brk Z (gOn Z 37 (s_only S ((c : Int)).toNat y)).1
          rw [Int.toNat_natCast]
          exact ⟨d1.2.1, d1.2.2⟩
      | none =>
        rw [h3] at h
        exact absurd rfl h
section MSP
variable {kc : List va_E} {d : Nat} {Q : Option fx_V → fx_M → Prop} {Z : PZ} {S : Nat → Nat}
theorem sp_areNear (ho : pz_ok Z) {M : fx_M} (hz : mz M 0 Z) {r q : Nat} {R R2 : PR} (hR : Z.2.2.2.1[r]? = some R) (hR2 : Z.2.2.2.1[q]? = some R2) (K : ∀ M', f158 M M' → Q (some (jI (bI (neaB R R2)))) M') : wc kc (d + 3) 310 [jR 133, jI r, jI q] M Q := by
  obtain ⟨hRo, hr12⟩ := rule_in ho hR
  obtain ⟨hR2o, hq12⟩ := rule_in ho hR2
  have l1 := hRo.2.2.2.2.2.1
  have l2 := hR2o.2.2.2.2.2.1
  refine s310 (sp_join ho hR (Or.inr ⟨q, R2, rfl, rfl, hR2⟩) hz (fun M1 f1 j1 => s310_6 ?_))
  have z1 := mz_158 hz f1
  obtain ⟨-, -, a3, -⟩ := z1.2.2.2.2.1 r R hR
  obtain ⟨-, -, b3, -⟩ := z1.2.2.2.2.1 q R2 hR2
  rw [show (12 * (0 : Int) + (r : Int)) = r by omega] at a3
  rw [show (12 * (0 : Int) + (q : Int)) = q by omega] at b3
  have h8 := j1.l8
  rw [a3, b3, j1.n]
  have e : (if (((jnC R (some R2)).length : Nat) : Int) < (R.2.2.length : Int) + (R2.2.2.length : Int) then ((if 6 < (((jnC R (some R2)).length : Nat) : Int) then (0 : Int) else 1) : Int) else 0) = bI (neaB R R2) := by
    unfold bI neaB
    by_cases h1 : (jnC R (some R2)).length < R.2.2.length + R2.2.2.length
    · by_cases h2 : (jnC R (some R2)).length ≤ 6
      · rw [if_pos (by omega), if_neg (by omega), decide_eq_true h1, decide_eq_true h2]
        rfl
      · rw [if_pos (by omega), if_pos (by omega), decide_eq_true h1, decide_eq_false h2]
        rfl
    · rw [if_neg (by omega), decide_eq_false h1]
      rfl
  rw [e]
  exact ⟨⟨by omega, by omega⟩, ⟨by omega, by omega⟩, ⟨by omega, by omega⟩, ⟨by omega, by omega⟩, fun _ => ⟨by omega, by omega⟩, by unfold bI; split <;> omega, K M1 f1⟩
theorem t2_in (ho : pz_ok Z) (hS : ∀ c : Nat, (c : Int) < Z.1 * Z.2.1 → S c < 16) {M0 : fx_M} {r : Nat} {R : PR} (hR : Z.2.2.2.1[r]? = some R) (K1 : ∀ q R2 c y, fT2i Z S R r (Z.2.2.2.1.drop (r + 1)) (r + 1) = some (r, q, c, y) → Z.2.2.2.1[q]? = some R2 → ∀ M', f54 M0 M' → mjt M' (jnC R (some R2)) → M' 133 51 = c → M' 133 52 = (y : Int) → M' 133 53 = (r : Int) → M' 133 54 = (q : Int) → Q (some (jI 1)) M') (K0 : fT2i Z S R r (Z.2.2.2.1.drop (r + 1)) (r + 1) = none → ∀ M', f54 M0 M' → wp kc (d + 6) 309 2 [some (jR 133), some (jI ((r : Int) + 1)), none] [] M' Q) : ∀ (t q : Nat) (M : fx_M), q + t = Z.2.2.2.1.length → fT2i Z S R r (Z.2.2.2.1.drop (r + 1)) (r + 1) = fT2i Z S R r (Z.2.2.2.1.drop q) q → f54 M0 M → mz M 0 Z → mst' M Z S → wp kc (d + 6) 309 16 [some (jR 133), some (jI r), some (jI q)] [] M Q := by
  have h12 := ho.2.2.2.2.2.2.1
  have hrl := (List.getElem?_eq_some_iff.mp hR).1
  intro t
  induction t with
  | zero =>
    intro q M hq he hf hz hm
    refine s309_16 ?_
    rw [hz.2.2.2.1]
    refine ⟨⟨⟨by omega, by omega⟩, ⟨by omega, by omega⟩⟩, fun _ => K0 ?_ M hf, fun h => by omega⟩
    rw [he, List.drop_eq_nil_of_le (by omega)]
    rfl
  | succ t ih =>
    intro q M hq he hf hz hm
    have hql : q < Z.2.2.2.1.length := by omega
    have hR2 := List.getElem?_eq_getElem hql
    have hd : fT2i Z S R r (Z.2.2.2.1.drop q) q = match (if neaB R Z.2.2.2.1[q] = true then fCl Z R (some Z.2.2.2.1[q]) S (jnC R (some Z.2.2.2.1[q])) else none) with
      | some x => some (r, q, x)
      | none => fT2i Z S R r (Z.2.2.2.1.drop (q + 1)) (q + 1) := by
      rw [List.drop_eq_getElem_cons hql, fT2i]
    have go : ∀ M', (if neaB R Z.2.2.2.1[q] = true then fCl Z R (some Z.2.2.2.1[q]) S (jnC R (some Z.2.2.2.1[q])) else none) = none → f54 M M' → wp kc (d + 6) 309 16 [some (jR 133), some (jI r), some (jI ((q : Int) + 1))] [] M' Q := fun M' hn hf' => by
      have nx := ih (q + 1) M' (by omega) (by rw [he, hd, hn]) (f54_tr hf hf') (mz_54 hz hf') (mst_54 hm hf')
      rw [show ((q + 1 : Nat) : Int) = (q : Int) + 1 by omega] at nx
      exact nx
    refine s309_16 ?_
    rw [hz.2.2.2.1]
    refine ⟨⟨⟨by omega, by omega⟩, ⟨by omega, by omega⟩⟩, fun h => by omega, fun _ => sp_areNear (d := d + 2) ho hz hR hR2 (fun M1 f1 => s309_32 ?_)⟩
    by_cases hn : neaB R Z.2.2.2.1[q] = true
    · unfold bI
      rw [if_pos hn]
      refine ⟨⟨by omega, by omega⟩, fun h => by omega, fun _ => sp_findOut ho hR (Or.inr ⟨q, _, rfl, rfl, hR2⟩) hS (mz_158 hz f1) (mst_158 hm f1) (fun c y e M2 f2 j2 a1 a2 a3 a4 => s309_41 ?_) (fun e M2 f2 => s309_41 ?_)⟩
      · exact ⟨⟨by omega, by omega⟩, fun h => by omega, fun _ => K1 q _ c y (by rw [he, hd, if_pos hn, e]) hR2 M2 (f54_tr hf (f54_tr (f54_of f1) f2)) j2 a1 a2 a3 a4⟩
      · exact ⟨⟨by omega, by omega⟩, fun _ => go M2 (by rw [if_pos hn]; exact e) (f54_tr (f54_of f1) f2), fun h => absurd rfl h⟩
    · unfold bI
      rw [if_neg hn]
      exact ⟨⟨by omega, by omega⟩, fun _ => go M1 (by rw [if_neg hn]) (f54_of f1), fun h => absurd rfl h⟩
theorem t2_out (ho : pz_ok Z) (hS : ∀ c : Nat, (c : Int) < Z.1 * Z.2.1 → S c < 16) {M0 : fx_M} (K1 : ∀ r q R R2 c y, fT2 Z S Z.2.2.2.1 0 = some (r, q, c, y) → Z.2.2.2.1[r]? = some R → Z.2.2.2.1[q]? = some R2 → ∀ M', f54 M0 M' → mjt M' (jnC R (some R2)) → M' 133 51 = c → M' 133 52 = (y : Int) → M' 133 53 = (r : Int) → M' 133 54 = (q : Int) → Q (some (jI 1)) M') (K0 : fT2 Z S Z.2.2.2.1 0 = none → ∀ M', f54 M0 M' → Q (some (jI 0)) M') : ∀ (t r : Nat) (M : fx_M), r + t = Z.2.2.2.1.length → fT2 Z S Z.2.2.2.1 0 = fT2 Z S (Z.2.2.2.1.drop r) r → f54 M0 M → mz M 0 Z → mst' M Z S → wp kc (d + 6) 309 2 [some (jR 133), some (jI r), none] [] M Q := by
  have h12 := ho.2.2.2.2.2.2.1
  intro t
  induction t with
  | zero =>
    intro r M hr he hf hz hm
    refine s309_2 ?_
    rw [hz.2.2.2.1]
    refine ⟨⟨⟨by omega, by omega⟩, ⟨by omega, by omega⟩⟩, fun _ => K0 ?_ M hf, fun h => by omega⟩
    rw [he, List.drop_eq_nil_of_le (by omega)]
    rfl
  | succ t ih =>
    intro r M hr he hf hz hm
    have hrl : r < Z.2.2.2.1.length := by omega
    have hR := List.getElem?_eq_getElem hrl
    have hd : fT2 Z S (Z.2.2.2.1.drop r) r = match fT2i Z S Z.2.2.2.1[r] r (Z.2.2.2.1.drop (r + 1)) (r + 1) with
      | some x => some x
      | none => fT2 Z S (Z.2.2.2.1.drop (r + 1)) (r + 1) := by
      rw [List.drop_eq_getElem_cons hrl, fT2]
    refine s309_2 ?_
    rw [hz.2.2.2.1]
    refine ⟨⟨⟨by omega, by omega⟩, ⟨by omega, by omega⟩⟩, fun h => by omega, fun _ => ?_⟩
    have nx := t2_in (kc := kc) (d := d) (Q := Q) (M0 := M) ho hS hR (fun q R2 c y e hR2 M1 f1 j1 a1 a2 a3 a4 => K1 r q _ R2 c y (by rw [he, hd, e]) hR hR2 M1 (f54_tr hf f1) j1 a1 a2 a3 a4) (fun e M1 f1 => by
      have nx := ih (r + 1) M1 (by omega) (by rw [he, hd, e]) (f54_tr hf f1) (mz_54 hz f1) (mst_54 hm f1)
      rw [show ((r + 1 : Nat) : Int) = (r : Int) + 1 by omega] at nx
      exact nx) (Z.2.2.2.1.length - (r + 1)) (r + 1) M (by omega) rfl f54_rf hz hm
    rw [show ((r + 1 : Nat) : Int) = (r : Int) + 1 by omega] at nx
    exact nx
theorem sp_mFindTwo (ho : pz_ok Z) (hS : ∀ c : Nat, (c : Int) < Z.1 * Z.2.1 → S c < 16) {M : fx_M} (hz : mz M 0 Z) (hm : mst' M Z S) (K1 : ∀ r q R R2 c y, fT2 Z S Z.2.2.2.1 0 = some (r, q, c, y) → Z.2.2.2.1[r]? = some R → Z.2.2.2.1[q]? = some R2 → ∀ M', f54 M M' → mjt M' (jnC R (some R2)) → M' 133 51 = c → M' 133 52 = (y : Int) → M' 133 53 = (r : Int) → M' 133 54 = (q : Int) → Q (some (jI 1)) M') (K0 : fT2 Z S Z.2.2.2.1 0 = none → ∀ M', f54 M M' → Q (some (jI 0)) M') : wc kc (d + 6) 309 [jR 133] M Q :=
  s309 (t2_out ho hS K1 K0 Z.2.2.2.1.length 0 M (by omega) (by rw [List.drop_zero]) f54_rf hz hm)
theorem ks_loop {M0 : fx_M} (K : ∀ M', (∀ c : Nat, c < 9 → M' 165 (c : Int) = M0 156 (c : Int)) → (∀ b j, b ≠ 165 → M' b j = M0 b j) → Q none M') : ∀ (t c : Nat) (M : fx_M), c + t = 9 → (∀ k : Nat, k < c → M 165 (k : Int) = M0 156 (k : Int)) → (∀ b j, b ≠ 165 → M b j = M0 b j) → wp kc (d + 1) 312 2 [some (jR 133), some (jI c)] [] M Q := by
  intro t
  induction t with
  | zero =>
    intro c M hc h1 h2
    exact s312_2 ⟨⟨by omega, by omega⟩, fun _ => K M (fun k hk => h1 k (by omega)) h2, fun h => by omega⟩
  | succ t ih =>
    intro c M hc h1 h2
    refine s312_2 ⟨⟨by omega, by omega⟩, fun h => by omega, fun _ => ⟨⟨by omega, by omega⟩, ⟨by omega, by omega⟩, ?_⟩⟩
    have nx := ih (c + 1) (fx_up M 165 (c : Int) (M 156 (c : Int))) (by omega) (fun k hk => by
      by_cases e : k = c
      · subst e
        rw [fx_up_self, h2 _ _ (by decide)]
      · rw [fx_up_nk (by omega)]
        exact h1 k (by omega)) (fun b j hb => by rw [fx_up_na hb]; exact h2 b j hb)
    rw [show ((c + 1 : Nat) : Int) = (c : Int) + 1 by omega] at nx
    exact nx
theorem sp_keepStanding {M : fx_M} (K : ∀ M', (∀ c : Nat, c < 9 → M' 165 (c : Int) = M 156 (c : Int)) → (∀ b j, b ≠ 165 → M' b j = M b j) → Q none M') : wc kc (d + 1) 312 [jR 133] M Q :=
  s312 (ks_loop K 9 0 M (by omega) (fun k h => by omega) (fun _ _ _ => rfl))
theorem ts_loop {M0 : fx_M} (K : ∀ M', (∀ c : Nat, c < 9 → M' 156 (c : Int) = M0 165 (c : Int)) → (∀ b j, b ≠ 156 → M' b j = M0 b j) → Q none M') : ∀ (t c : Nat) (M : fx_M), c + t = 9 → (∀ k : Nat, k < c → M 156 (k : Int) = M0 165 (k : Int)) → (∀ b j, b ≠ 156 → M b j = M0 b j) → wp kc (d + 1) 319 2 [some (jR 133), some (jI c)] [] M Q := by
  intro t
  induction t with
  | zero =>
    intro c M hc h1 h2
    exact s319_2 ⟨⟨by omega, by omega⟩, fun _ => K M (fun k hk => h1 k (by omega)) h2, fun h => by omega⟩
  | succ t ih =>
    intro c M hc h1 h2
    refine s319_2 ⟨⟨by omega, by omega⟩, fun h => by omega, fun _ => ⟨⟨by omega, by omega⟩, ⟨by omega, by omega⟩, ?_⟩⟩
    have nx := ih (c + 1) (fx_up M 156 (c : Int) (M 165 (c : Int))) (by omega) (fun k hk => by
      by_cases e : k = c
      · subst e
        rw [fx_up_self, h2 _ _ (by decide)]
      · rw [fx_up_nk (by omega)]
        exact h1 k (by omega)) (fun b j hb => by rw [fx_up_na hb]; exact h2 b j hb)
    rw [show ((c + 1 : Nat) : Int) = (c : Int) + 1 by omega] at nx
    exact nx
theorem sp_takeStanding {M : fx_M} (K : ∀ M', (∀ c : Nat, c < 9 → M' 156 (c : Int) = M 165 (c : Int)) → (∀ b j, b ≠ 156 → M' b j = M b j) → Q none M') : wc kc (d + 1) 319 [jR 133] M Q :=
  s319 (ts_loop K 9 0 M (by omega) (fun k h => by omega) (fun _ _ _ => rfl))
/-- what findTry may change -/
def fTy (M N : fx_M) : Prop := ∀ b j, ¬ (155 ≤ b ∧ b ≤ 158) → b ≠ 165 → b ≠ 136 → ¬ (b = 133 ∧ (j = 5 ∨ j = 48 ∨ (51 ≤ j ∧ j ≤ 54) ∨ j = 56 ∨ j = 57 ∨ j = 59)) → N b j = M b j
theorem fTy_tr {M N O : fx_M} (h1 : fTy M N) (h2 : fTy N O) : fTy M O := fun b j a1 a2 a3 a4 => (h2 b j a1 a2 a3 a4).trans (h1 b j a1 a2 a3 a4)
theorem fTy_Go {M N : fx_M} (h : fGo M N) : fTy M N := fun b j h1 h2 h3 h4 => h b j h1 h3 (by omega)
theorem fTy_rf {M : fx_M} : fTy M M := fun _ _ _ _ _ _ => rfl
theorem mz_Ty {M N : fx_M} (hz : mz M 0 Z) (h : fTy M N) : mz N 0 Z := mz_frM hz (fun b j h1 h2 => h b j (by omega) (by omega) (by omega) (by omega))
theorem fTr_step {t i : Nat} : (tryP Z S (i / 4) (i % 4) → fTr Z S (t + 1) i = some (i / 4, i % 4)) ∧ (¬ tryP Z S (i / 4) (i % 4) → fTr Z S (t + 1) i = fTr Z S t (i + 1)) := by
  constructor
  · intro h
    unfold fTr
    rw [if_pos h]
  · intro h
    conv => lhs; unfold fTr
    rw [if_neg h]
/-- no symbol of a cell from y on -/
theorem fTr_skip {c : Nat} : ∀ (m y t : Nat), y + m = 4 → (∀ z, y ≤ z → z < 4 → ¬ tryP Z S c z) → fTr Z S (t + m) (4 * c + y) = fTr Z S t (4 * (c + 1))
  | 0, y, t, hy, _ => by
    rw [Nat.add_zero, show 4 * c + y = 4 * (c + 1) by omega]
  | m + 1, y, t, hy, h => by
    have h1 := h y (Nat.le_refl _) (by omega)
    have hs := (fTr_step (Z := Z) (S := S) (t := t + m) (i := 4 * c + y)).2 (by rw [show (4 * c + y) / 4 = c by omega, show (4 * c + y) % 4 = y by omega]; exact h1)
    rw [show t + (m + 1) = t + m + 1 by omega, hs, show 4 * c + y + 1 = 4 * c + (y + 1) by omega]
    exact fTr_skip m (y + 1) t (by omega) (fun z h2 h3 => h z (by omega) h3)
end MSP
