/-! FORMS, the reference: the rules of unit 3 put in order. -/
/-- slots from b on hold the rules L -/
def slt (M : fx_M) (b : Int) (L : List PR) : Prop := ∀ (i : Nat) (R : PR), L[i]? = some R → mR M (b + i) R
/-- only slots lo .. hi - 1 and what stands behind the text said have changed -/
def ofr (lo hi : Int) (M N : fx_M) : Prop := ∀ b j, ¬ (b = 136 ∧ M 133 5 ≤ j) → ¬ ((b = 150 ∨ b = 151 ∨ b = 152) ∧ lo ≤ j ∧ j < hi) → ¬ (b = 153 ∧ 4 * lo ≤ j ∧ j < 4 * hi) → N b j = M b j
theorem ofr_rf {lo hi : Int} {M : fx_M} : ofr lo hi M M := fun _ _ _ _ _ => rfl
theorem ofr_5 {lo hi : Int} {M N : fx_M} (h : ofr lo hi M N) : N 133 5 = M 133 5 := h _ _ (by omega) (by omega) (by omega)
theorem ofr_tr {lo hi : Int} {M N O : fx_M} (h : ofr lo hi M N) (g : ofr lo hi N O) : ofr lo hi M O := fun b j b1 b2 b3 => by
  rw [g b j (by rw [ofr_5 h]; exact b1) b2 b3, h b j b1 b2 b3]
theorem ofr_wk {lo hi lo' hi' : Int} {M N : fx_M} (h : ofr lo hi M N) (h1 : lo' ≤ lo) (h2 : hi ≤ hi') : ofr lo' hi' M N := fun b j b1 b2 b3 => h b j b1 (by omega) (by omega)
theorem mR_of {lo hi s : Int} {M N : fx_M} {R : PR} (h4 : R.2.2.length ≤ 4) (h : mR M s R) (f : ofr lo hi M N) (hs : s < lo ∨ hi ≤ s) : mR N s R := mR_fr h4 h (fun b hb => f b s (by omega) (by omega) (by omega)) (fun j j1 j2 => f 153 j (by omega) (by omega) (by omega))
theorem slt_of {lo hi b : Int} {M N : fx_M} {L : List PR} (h4 : ∀ R ∈ L, R.2.2.length ≤ 4) (h : slt M b L) (f : ofr lo hi M N) (hs : b + L.length ≤ lo ∨ hi ≤ b) : slt N b L := fun i R hi => by
  have hl := (List.getElem?_eq_some_iff.mp hi).1
  exact mR_of (h4 R (List.mem_of_getElem? hi)) (h i R hi) f (by omega)
theorem slt_app {M : fx_M} {b : Int} {A B : List PR} : slt M b (A ++ B) ↔ slt M b A ∧ slt M (b + A.length) B := by
  constructor
  · intro h
    refine ⟨fun i R hi => h i R ?_, fun i R hi => ?_⟩
    · rw [List.getElem?_append_left (List.getElem?_eq_some_iff.mp hi).1]
      exact hi
    · have := h (A.length + i) R (by rw [List.getElem?_append_right (by omega), Nat.add_sub_cancel_left]; exact hi)
      rw [show b + ((A.length + i : Nat) : Int) = b + A.length + i by omega] at this
      exact this
  · rintro ⟨h1, h2⟩ i R hi
    by_cases h : i < A.length
    · rw [List.getElem?_append_left h] at hi
      exact h1 i R hi
    · rw [List.getElem?_append_right (by omega)] at hi
      have := h2 _ R hi
      rw [show b + (A.length : Int) + ((i - A.length : Nat) : Int) = b + i by omega] at this
      exact this
theorem slt_cons {M : fx_M} {b : Int} {R : PR} {L : List PR} : slt M b (R :: L) ↔ mR M b R ∧ slt M (b + 1) L := by
  have e : R :: L = [R] ++ L := rfl
  rw [e, slt_app]
  constructor
  · rintro ⟨h1, h2⟩
    have := h1 0 R rfl
    rw [show b + ((0 : Nat) : Int) = b by omega] at this
    exact ⟨this, h2⟩
  · rintro ⟨h1, h2⟩
    refine ⟨fun i X hi => ?_, h2⟩
    cases i with
    | zero =>
      have e : R = X := by simpa using hi
      rw [show b + ((0 : Nat) : Int) = b by omega, ← e]
      exact h1
    | succ i => simp at hi
theorem insR_lt {R : PR} : ∀ {A B : List PR}, (∀ a ∈ A, kyR a < kyR R) → (∀ b ∈ B, kyR R < kyR b) → insR R (A ++ B) = A ++ R :: B
  | [], [], _, _ => rfl
  | [], b :: B, _, h => by
    have := h b (List.mem_cons_self ..)
    rw [List.nil_append, insR, if_neg (by omega), if_neg (by omega), List.nil_append]
  | a :: A, B, h, g => by
    rw [List.cons_append, insR, if_pos (h a (List.mem_cons_self ..)), insR_lt (fun x hx => h x (List.mem_cons_of_mem _ hx)) g, List.cons_append]
theorem insR_eq {R x : PR} {B : List PR} : ∀ {A : List PR}, (∀ a ∈ A, kyR a < kyR R) → kyR x = kyR R → insR R (A ++ x :: B) = A ++ x :: B
  | [], _, h => by rw [List.nil_append, insR, if_neg (by omega), if_pos h]
  | a :: A, h, g => by rw [List.cons_append, insR, if_pos (h a (List.mem_cons_self ..)), insR_eq (fun x hx => h x (List.mem_cons_of_mem _ hx)) g]
theorem insR_ris {R : PR} {l : List PR} (h : ris kyR l) : ris kyR (insR R l) := by
  have h1 : ris (fun x => x) (l.map kyR) := by
    unfold ris at h ⊢
    rw [List.pairwise_map]
    exact h
  have h2 := insK_ris (k := kyR R) h1
  rw [← insR_ky] at h2
  unfold ris at h2 ⊢
  rw [List.pairwise_map] at h2
  exact h2
section MOD
variable {kc : List va_E} {d : Nat} {M : fx_M} {Q : Option fx_V → fx_M → Prop}
theorem sp_copyS {R : PR} {a b : Int} (ha : 0 ≤ a ∧ a < 120) (hb : 0 ≤ b ∧ b < 120) (hab : a ≠ b) (h4 : R.2.2.length ≤ 4) (h : mR M a R) (K : ∀ M', mR M' b R → ofr b (b + 1) M M' → Q none M') : wc kc (d + 1) 265 [jR 133, jI a, jI b] M Q := by
  obtain ⟨a1, a2, a3, a4⟩ := h
  refine sp_copyRule ha hb hab (fun M' m1 m2 m3 m4 m5 => K M' ⟨by rw [m1]; exact a1, by rw [m2]; exact a2, by rw [m3]; exact a3, fun i c hi => ?_⟩ (fun c j c1 c2 c3 => m5 c j (by omega) (by omega)))
  have hl := (List.getElem?_eq_some_iff.mp hi).1
  rw [m4 _ (by omega) (by omega)]
  exact a4 i c hi
theorem od_sh {A : List PR} {R : PR} {v4 v5 : Int} (hR : mR M 24 R) (h4R : R.2.2.length ≤ 4) (h4A : ∀ x ∈ A, x.2.2.length ≤ 4) : ∀ (n : Nat) (B D : List PR) (M : fx_M), B.length = n → mR M 24 R → slt M 36 (A ++ B) → slt M (36 + A.length + B.length + 1) D → A.length + B.length + 1 + D.length ≤ 12 → (∀ x ∈ B, x.2.2.length ≤ 4) → (∀ x ∈ D, x.2.2.length ≤ 4) → (∀ M', slt M' 36 (A ++ R :: (B ++ D)) → ofr (36 + A.length) (36 + A.length + B.length + 1) M M' → wp kc (d + 2) 335 153 [some (jR 133), some (jI 3), some (jI 36), some (jI 24), some (jI v4), some (jI v5), none, none] [] M' Q) → wp kc (d + 2) 335 117 [some (jR 133), some (jI 3), some (jI 36), some (jI 24), some (jI v4), some (jI v5), some (jI A.length), some (jI (A.length + B.length : Nat))] [] M Q := by
  intro n
  induction n with
  | zero =>
    intro B D M hB hR hm hD hl h4B h4D K
    have e := List.length_eq_zero_iff.mp hB
    subst e
    rw [List.append_nil] at hm
    refine s335_117 ⟨⟨⟨by omega, by omega⟩, ⟨by omega, by omega⟩⟩, fun _ => sp_copyS (d := d) ⟨by omega, by omega⟩ ⟨by omega, by omega⟩ (by omega) h4R hR (fun M' m1 m2 => K M' ?_ ?_), fun h => by simp at h⟩
    · rw [slt_app, slt_cons]
      refine ⟨slt_of h4A hm m2 (by omega), m1, ?_⟩
      rw [List.nil_append]
      rw [List.length_nil, show 36 + (A.length : Int) + ((0 : Nat) : Int) + 1 = 36 + A.length + 1 by omega] at hD
      exact slt_of h4D hD m2 (by omega)
    · exact ofr_wk m2 (by omega) (by rw [List.length_nil]; omega)
  | succ n ih =>
    intro B D M hB hR hm hD hl h4B h4D K
    rcases List.eq_nil_or_concat B with e | ⟨B', b, e⟩
    · rw [e] at hB
      cases hB
    · rw [List.concat_eq_append] at e
      subst e
      have lB : (B' ++ [b]).length = B'.length + 1 := by rw [List.length_append, List.length_singleton]
      rw [lB] at hl hD hB
      rw [← List.append_assoc, slt_app, slt_cons] at hm
      obtain ⟨m1, m2, -⟩ := hm
      rw [List.length_append] at m2
      have h4b := h4B b (by simp)
      rw [lB]
      refine s335_117 ⟨⟨⟨by omega, by omega⟩, ⟨by omega, by omega⟩⟩, fun h => by omega, fun _ => ?_⟩
      rw [show (36 : Int) + ((A.length + (B'.length + 1) : Nat) : Int) - 1 = 36 + ((A.length + B'.length : Nat) : Int) by omega]
      refine sp_copyS (d := d) ⟨by omega, by omega⟩ ⟨by omega, by omega⟩ (by omega) h4b m2 (fun M' n1 n2 => s335_138 ?_)
      have h4B' : ∀ x ∈ B', x.2.2.length ≤ 4 := fun x hx => h4B x (List.mem_append_left _ hx)
      have := ih B' (b :: D) M' (by omega) (mR_of h4R hR n2 (by omega)) (slt_of (fun x hx => (List.mem_append.mp hx).elim (h4A x) (h4B' x)) m1 n2 (by rw [List.length_append]; omega)) (by
        rw [slt_cons]
        refine ⟨?_, ?_⟩
        · rw [show 36 + (A.length : Int) + B'.length + 1 = 36 + ((A.length + (B'.length + 1) : Nat) : Int) by omega]
          exact n1
        · rw [show 36 + (A.length : Int) + B'.length + 1 + 1 = 36 + (A.length : Int) + ((B'.length + 1 : Nat) : Int) + 1 by omega]
          exact slt_of h4D hD n2 (by omega)) (by rw [List.length_cons]; omega) h4B' (fun x hx => (List.mem_cons.mp hx).elim (fun e => e ▸ h4b) (h4D x)) (fun N k1 k2 => K N (by
          rw [show (B' ++ [b]) ++ D = B' ++ b :: D by simp]
          exact k1) (ofr_tr (ofr_wk n2 (by omega) (by omega)) (ofr_wk k2 (by omega) (by omega))))
      rw [show ((A.length + (B'.length + 1) : Nat) : Int) + (-1) = ((A.length + B'.length : Nat) : Int) by omega]
      exact this
theorem vR_4 {R : PR} (h : vR R) : R.2.2.length ≤ 4 := h.1.2.2.2.2.2.1
theorem od_wh {R : PR} {v5 : Int} (vR0 : vR R) : ∀ (n : Nat) (A B : List PR) (M : fx_M), A.length = n → mR M 24 R → slt M 36 (A ++ B) → A.length + B.length + 1 ≤ 12 → (∀ x ∈ A, vR x) → (∀ x ∈ B, vR x) → (∀ b ∈ B, kyR R < kyR b) → ris kyR (A ++ B) → 0 ≤ M 133 5 → M 133 5 + 42 ≤ 6000 → (∀ M', slt M' 36 (insR R (A ++ B)) → (insR R (A ++ B)).length = A.length + B.length + 1 → ofr 36 (36 + A.length + B.length + 1) M M' → wp kc (d + 6) 335 153 [some (jR 133), some (jI 3), some (jI 36), some (jI 24), some (jI (A.length + B.length : Nat)), some (jI v5), none, none] [] M' Q) → (∀ M', insR R (A ++ B) = A ++ B → ofr 0 0 M M' → wp kc (d + 6) 335 42 [some (jR 133), some (jI 3), some (jI 36), some (jI 24), some (jI (A.length + B.length : Nat)), some (jI (v5 + 1)), none, none] [] M' Q) → wp kc (d + 6) 335 66 [some (jR 133), some (jI 3), some (jI 36), some (jI 24), some (jI (A.length + B.length : Nat)), some (jI v5), some (jI A.length), none] [] M Q := by
  intro n
  induction n with
  | zero =>
    intro A B M hA hR hm hl vA vB hgt hris h0 h6 K1 K0
    have e := List.length_eq_zero_iff.mp hA
    subst e
    have ei : insR R ([] ++ B) = [] ++ R :: B := insR_lt (fun a ha => by cases ha) hgt
    refine s335_66 ⟨⟨by omega, by omega⟩, fun _ => ⟨⟨by omega, by omega⟩, fun _ => ?_, fun h => by simp at h⟩, fun h => by simp at h⟩
    refine od_sh (d := d + 4) (A := []) hR (vR_4 vR0) (fun x hx => by cases hx) B.length B [] M rfl hR hm (fun i X hi => by cases hi) (by rw [List.length_nil]; omega) (fun x hx => vR_4 (vB x hx)) (fun x hx => by cases hx) (fun M' m1 m2 => K1 M' ?_ ?_ ?_)
    · rw [ei]
      rw [List.append_nil] at m1
      exact m1
    · rw [ei, List.nil_append, List.length_cons]
      omega
    · exact ofr_wk m2 (by rw [List.length_nil]; omega) (by omega)
  | succ n ih =>
    intro A B M hA hR hm hl vA vB hgt hris h0 h6 K1 K0
    rcases List.eq_nil_or_concat A with e | ⟨A', a, e⟩
    · rw [e] at hA
      cases hA
    · rw [List.concat_eq_append] at e
      subst e
      have lA : (A' ++ [a]).length = A'.length + 1 := by rw [List.length_append, List.length_singleton]
      have va := vA a (by simp)
      have eS : (A' ++ [a]) ++ B = A' ++ a :: B := by simp
      have h4S : ∀ x ∈ (A' ++ [a]) ++ B, x.2.2.length ≤ 4 := fun x hx => (List.mem_append.mp hx).elim (fun h => vR_4 (vA x h)) (fun h => vR_4 (vB x h))
      have hlow : ∀ x ∈ A', kyR x < kyR a := fun x hx => by
        rw [eS] at hris
        exact (List.pairwise_append.mp hris).2.2 x hx a (List.mem_cons_self ..)
      have ma : ∀ N, slt N 36 ((A' ++ [a]) ++ B) → mR N (36 + ((A' ++ [a]).length : Nat) - 1) a := fun N h => by
        rw [eS, slt_app, slt_cons] at h
        rw [lA, show (36 : Int) + ((A'.length + 1 : Nat) : Int) - 1 = 36 + A'.length by omega]
        exact h.2.1
      refine s335_66 ⟨⟨by omega, by omega⟩, fun h => by omega, fun _ => ?_⟩
      refine sp_compareRules (d := d) ⟨by omega, by omega⟩ ⟨by omega, by omega⟩ vR0 va hR (ma M hm) h0 h6 (fun N x n1 x32 xl xe xg => ?_)
      have oN : ∀ {lo hi : Int}, ofr lo hi M N := fun b j b1 _ _ => n1 b j b1
      have n5 : N 133 5 = M 133 5 := n1 _ _ (by omega)
      have hRN : mR N 24 R := mR_of (vR_4 vR0) hR (oN (lo := 0) (hi := 0)) (by omega)
      have hmN : slt N 36 ((A' ++ [a]) ++ B) := slt_of h4S hm (oN (lo := 0) (hi := 0)) (by omega)
      refine s335_82 ⟨x32, fun hx => ⟨⟨by omega, by omega⟩, fun h => by omega, fun _ => ?_⟩, fun hx => ?_⟩
      · refine sp_compareRules (d := d) ⟨by omega, by omega⟩ ⟨by omega, by omega⟩ vR0 va hRN (ma N hmN) (by omega) (by omega) (fun O y o1 y32 yl ye yg => ?_)
        have oO : ∀ {lo hi : Int}, ofr lo hi N O := fun b j b1 _ _ => o1 b j b1
        have hle : kyR a ≤ kyR R := by
          by_cases h : kyR R < kyR a
          · have := xl h
            omega
          · omega
        refine s335_107 ⟨y32, fun hy => ?_, fun hy => ?_⟩
        · have hlt : kyR a < kyR R := by
            by_cases h : kyR R = kyR a
            · exact absurd (ye h) hy
            · omega
          have ei : insR R ((A' ++ [a]) ++ B) = (A' ++ [a]) ++ R :: B := insR_lt (fun x hx => by
            rcases List.mem_append.mp hx with h | h
            · have := hlow x h
              omega
            · rw [List.mem_singleton.mp h]
              exact hlt) hgt
          refine od_sh (d := d + 4) (A := A' ++ [a]) (mR_of (vR_4 vR0) hRN (oO (lo := 0) (hi := 0)) (by omega)) (vR_4 vR0) (fun x hx => vR_4 (vA x hx)) B.length B [] O rfl (mR_of (vR_4 vR0) hRN (oO (lo := 0) (hi := 0)) (by omega)) (slt_of h4S hmN (oO (lo := 0) (hi := 0)) (by omega)) (fun i X hi => by cases hi) (by rw [List.length_nil]; omega) (fun x hx => vR_4 (vB x hx)) (fun x hx => by cases hx) (fun M' m1 m2 => K1 M' ?_ ?_ ?_)
          · rw [ei]
            rw [List.append_nil] at m1
            exact m1
          · rw [ei, List.length_append, List.length_cons]
            omega
          · exact ofr_tr (ofr_tr oN oO) (ofr_wk m2 (by omega) (by omega))
        · have heq : kyR a = kyR R := by
            by_cases h : kyR a < kyR R
            · have := yg h
              omega
            · omega
          refine K0 O ?_ (ofr_tr oN oO)
          rw [eS]
          exact insR_eq (fun x hx => by
            have := hlow x hx
            omega) heq
      · have hlt : kyR R < kyR a := by
          by_cases h : kyR R = kyR a
          · have := xe h
            omega
          · by_cases h2 : kyR a < kyR R
            · have := xg h2
              omega
            · omega
        have eL : A'.length + (a :: B).length = (A' ++ [a]).length + B.length := by
          rw [lA, List.length_cons]
          omega
        rw [eS] at K1 K0 hmN hris
        rw [← eL] at K1 K0 ⊢
        have eL2 : (36 : Int) + ((A' ++ [a]).length : Nat) + B.length + 1 = 36 + A'.length + ((a :: B).length : Nat) + 1 := by omega
        rw [show (((A' ++ [a]).length : Nat) : Int) + (-1) = A'.length by omega]
        exact ih A' (a :: B) N (by omega) hRN hmN (by omega) (fun x hx => vA x (List.mem_append_left _ hx)) (fun x hx => (List.mem_cons.mp hx).elim (fun e => e ▸ va) (vB x)) (fun b hb => (List.mem_cons.mp hb).elim (fun e => e ▸ hlt) (hgt b)) hris (by omega) (by omega) (fun M' m1 m2 m3 => K1 M' m1 m2 (by
          rw [eL2]
          exact ofr_tr oN m3)) (fun M' m1 m3 => K0 M' m1 (ofr_tr oN m3))
end MOD
