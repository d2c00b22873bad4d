/-! FORMS, the reference: the cells of a rule put in order. -/
def cS (M : fx_M) (s : Int) (L : List Int) : Prop := ∀ (i : Nat) (c : Int), L[i]? = some c → M 153 (4 * s + i) = c
def cSf (s : Int) (M N : fx_M) : Prop := ∀ b j, ¬ (b = 153 ∧ 4 * s ≤ j ∧ j < 4 * s + 4) → N b j = M b j
theorem cSf_rf {s : Int} {M : fx_M} : cSf s M M := fun _ _ _ => rfl
theorem cSf_tr {s : Int} {M N O : fx_M} (h : cSf s M N) (g : cSf s N O) : cSf s M O := fun b j hb => by rw [g b j hb, h b j hb]
theorem cS_swap {M : fx_M} {s a x : Int} {U V : List Int} (h : cS M s (U ++ a :: x :: V)) : cS (fx_up (fx_up M 153 (4 * s + (U.length + 1 : Nat)) a) 153 (4 * s + U.length) x) s (U ++ x :: a :: V) := by
  intro i c hi
  by_cases h1 : i < U.length
  · rw [fx_up_nk (by omega), fx_up_nk (by omega)]
    refine h i c ?_
    rw [List.getElem?_append_left h1] at hi ⊢
    exact hi
  · rw [List.getElem?_append_right (by omega)] at hi
    have e : ∀ y z : Int, i - U.length = 0 ∨ i - U.length = 1 ∨ ∃ n, i - U.length = n + 2 ∧ i = U.length + (n + 2) := fun _ _ => by
      by_cases a0 : i - U.length = 0
      · exact Or.inl a0
      · by_cases a1 : i - U.length = 1
        · exact Or.inr (Or.inl a1)
        · exact Or.inr (Or.inr ⟨i - U.length - 2, by omega, by omega⟩)
    rcases e 0 0 with e0 | e0 | ⟨n, e0, e1⟩
    · rw [e0] at hi
      simp at hi
      rw [show 4 * s + (i : Int) = 4 * s + U.length by omega, fx_up_self]
      exact hi
    · rw [e0] at hi
      simp at hi
      rw [show 4 * s + (i : Int) = 4 * s + (U.length + 1 : Nat) by omega, fx_up_nk (by omega), fx_up_self]
      exact hi
    · rw [e0] at hi
      rw [fx_up_nk (by omega), fx_up_nk (by omega)]
      refine h i c ?_
      rw [List.getElem?_append_right (by omega), e0]
      simpa using hi
theorem cS_at {M : fx_M} {s x : Int} {U V : List Int} (h : cS M s (U ++ x :: V)) : M 153 (4 * s + U.length) = x := by
  have := h U.length x (by rw [List.getElem?_append_right (by omega), Nat.sub_self]; rfl)
  exact this
section MOC
variable {kc : List va_E} {d : Nat} {M : fx_M} {Q : Option fx_V → fx_M → Prop}
theorem oc_in {s i x : Int} {P : List Int} (hs : 0 ≤ s ∧ s < 120) (hx : 0 ≤ x ∧ x < 9) : ∀ (n : Nat) (A B : List Int) (M : fx_M), A.length = n → cS M s ((P ++ A) ++ x :: B) → P.length + A.length + 1 + B.length ≤ 4 → (∀ c ∈ A, 0 ≤ c ∧ c < 9) → (∀ M' A1 A2, A = A1 ++ A2 → (∀ a, A1.getLast? = some a → a ≤ x) → (∀ a ∈ A2, x < a) → cS M' s ((P ++ A1) ++ x :: (A2 ++ B)) → cSf s M M' → wp kc (d + 1) 336 43 [some (jR 133), some (jI s), none, some (jI P.length), some (jI (i + 1)), none, none] [] M' Q) → wp kc (d + 1) 336 58 [some (jR 133), some (jI s), none, some (jI P.length), some (jI i), some (jI (P.length + A.length : Nat)), none] [] M Q := by
  intro n
  induction n with
  | zero =>
    intro A B M hA hm hl hb K
    have e := List.length_eq_zero_iff.mp hA
    subst e
    refine s336_58 ⟨⟨⟨by omega, by omega⟩, ⟨by omega, by omega⟩⟩, fun _ => ?_, fun h => by simp at h⟩
    exact K M [] [] rfl (fun a h => by cases h) (fun a h => by cases h) hm cSf_rf
  | succ n ih =>
    intro A B M hA hm hl hb K
    rcases List.eq_nil_or_concat A with e | ⟨A', a, e⟩
    · rw [e] at hA
      cases hA
    · rw [List.concat_eq_append] at e
      subst e
      rw [List.length_append, List.length_singleton] at hA hl
      have e1 : (P ++ (A' ++ [a])) ++ x :: B = (P ++ A') ++ a :: x :: B := by simp
      rw [e1] at hm
      have lU : (P ++ A').length = P.length + A'.length := List.length_append
      have va : M 153 (4 * s + (P ++ A').length) = a := cS_at hm
      have vx : M 153 (4 * s + ((P ++ A').length + 1 : Nat)) = x := hm _ x (by rw [List.getElem?_append_right (by omega), show (P ++ A').length + 1 - (P ++ A').length = 1 by omega]; rfl)
      have ha := hb a (by simp)
      have eJ : ((P.length + (A' ++ [a]).length : Nat) : Int) = ((P ++ A').length + 1 : Nat) := by
        rw [List.length_append, List.length_singleton, lU]
        omega
      refine s336_58 ?_
      rw [eJ, vx, show 4 * s + (((P ++ A').length + 1 : Nat) : Int) - 1 = 4 * s + (P ++ A').length by omega, va]
      refine ⟨⟨⟨by omega, by omega⟩, ⟨by omega, by omega⟩⟩, fun h => by omega, fun _ => ⟨⟨by omega, by omega⟩, ⟨by omega, by omega⟩, ⟨⟨by omega, by omega⟩, ⟨by omega, by omega⟩⟩, fun hle => ?_, fun hlt => ⟨⟨by omega, by omega⟩, ⟨by omega, by omega⟩, ⟨by omega, by omega⟩, ⟨by omega, by omega⟩, ?_⟩⟩⟩
      · refine K M (A' ++ [a]) [] (by simp) (fun b h => ?_) (fun b h => by cases h) ?_ cSf_rf
        · rw [List.getLast?_append, List.getLast?_singleton] at h
          simp at h
          omega
        · rw [List.nil_append, e1]
          exact hm
      · have := ih A' (a :: B) _ (by omega) (cS_swap hm) (by rw [List.length_cons]; omega) (fun c hc => hb c (List.mem_append_left _ hc)) (fun M' A1 A2 g1 g2 g3 g4 g5 => K M' A1 (A2 ++ [a]) (by rw [g1, List.append_assoc]) g2 (fun b h => by
          rcases List.mem_append.mp h with h | h
          · exact g3 b h
          · rw [List.mem_singleton.mp h]
            exact hlt) (by
          rw [show (A2 ++ [a]) ++ B = A2 ++ a :: B by simp]
          exact g4) (cSf_tr (fun b j hbj => by
            rw [fx_up_ne (by omega), fx_up_ne (by omega)]) g5))
        rw [show (((P ++ A').length + 1 : Nat) : Int) + (-1) = ((P.length + A'.length : Nat) : Int) by omega]
        exact this
theorem ris_ins {A1 A2 : List Int} {x : Int} (h : ris (fun c => c) (A1 ++ A2)) (hx : x ∉ A1 ++ A2) (h1 : ∀ a, A1.getLast? = some a → a ≤ x) (h2 : ∀ a ∈ A2, x < a) : ris (fun c => c) (A1 ++ x :: A2) := by
  unfold ris at h ⊢
  rw [List.pairwise_append] at h ⊢
  obtain ⟨p1, p2, p3⟩ := h
  have q : ∀ a ∈ A1, a < x := fun a ha => by
    have hne : a ≠ x := fun e => hx (List.mem_append_left _ (e ▸ ha))
    rcases List.eq_nil_or_concat A1 with e | ⟨A', z, e⟩
    · rw [e] at ha
      cases ha
    · rw [List.concat_eq_append] at e
      have hz : z ≤ x := h1 z (by rw [e, List.getLast?_append, List.getLast?_singleton]; rfl)
      rw [e] at ha p1
      rcases List.mem_append.mp ha with h | h
      · have : a < z := (List.pairwise_append.mp p1).2.2 a h z (List.mem_singleton.mpr rfl)
        omega
      · rw [List.mem_singleton.mp h] at hne ⊢
        omega
  refine ⟨p1, List.pairwise_cons.mpr ⟨h2, p2⟩, fun a ha b hb => ?_⟩
  rcases List.mem_cons.mp hb with e | e
  · rw [e]
    exact q a ha
  · exact p3 a ha b e
theorem oc_out {s : Int} {P : List Int} (hs : 0 ≤ s ∧ s < 120) : ∀ (D A : List Int) (M : fx_M), cS M s ((P ++ A) ++ D) → P.length + A.length + D.length ≤ 4 → M 152 s = P.length + A.length + D.length → (∀ c ∈ A ++ D, 0 ≤ c ∧ c < 9) → ris (fun c => c) A → (A ++ D).Nodup → (∀ M' A', ris (fun c => c) A' → (∀ x, x ∈ A' ↔ x ∈ A ++ D) → A'.length = A.length + D.length → cS M' s (P ++ A') → cSf s M M' → Q none M') → wp kc (d + 1) 336 43 [some (jR 133), some (jI s), none, some (jI P.length), some (jI (P.length + A.length : Nat)), none, none] [] M Q := by
  intro D
  induction D with
  | nil =>
    intro A M hm hl h52 hb hr hn K
    rw [List.length_nil] at h52
    refine s336_43 ?_
    rw [h52]
    refine ⟨hs, ⟨⟨by omega, by omega⟩, ⟨by omega, by omega⟩⟩, fun _ => ?_, fun h => by omega⟩
    rw [List.append_nil] at hm
    exact K M A hr (fun x => by rw [List.append_nil]) rfl hm cSf_rf
  | cons x D ih =>
    intro A M hm hl h52 hb hr hn K
    rw [List.length_cons] at hl h52
    have hx := hb x (by simp)
    have hxn : x ∉ A := fun h => (List.nodup_append.mp hn).2.2 x h x (List.mem_cons_self ..) rfl
    refine s336_43 ?_
    rw [h52]
    refine ⟨hs, ⟨⟨by omega, by omega⟩, ⟨by omega, by omega⟩⟩, fun h => by omega, fun _ => ?_⟩
    refine oc_in hs hx A.length A D M rfl hm (by omega) (fun c hc => hb c (List.mem_append_left _ hc)) (fun M' A1 A2 g1 g2 g3 g4 g5 => ?_)
    have lA : A.length = A1.length + A2.length := by rw [g1, List.length_append]
    have lB : (A1 ++ x :: A2).length = A.length + 1 := by
      rw [List.length_append, List.length_cons]
      omega
    have mB : ∀ y, y ∈ A1 ++ x :: A2 ↔ y = x ∨ y ∈ A := fun y => by
      rw [g1]
      simp only [List.mem_append, List.mem_cons]
      constructor
      · rintro (h | h | h)
        · exact Or.inr (Or.inl h)
        · exact Or.inl h
        · exact Or.inr (Or.inr h)
      · rintro (h | h | h)
        · exact Or.inr (Or.inl h)
        · exact Or.inl h
        · exact Or.inr (Or.inr h)
    have hrB : ris (fun c => c) (A1 ++ x :: A2) := ris_ins (g1 ▸ hr) (g1 ▸ hxn) g2 g3
    have mD : ∀ y, y ∈ (A1 ++ x :: A2) ++ D ↔ y ∈ A ++ x :: D := fun y => by
      rw [List.mem_append, mB, List.mem_append, List.mem_cons]
      constructor
      · rintro ((h | h) | h)
        · exact Or.inr (Or.inl h)
        · exact Or.inl h
        · exact Or.inr (Or.inr h)
      · rintro (h | h | h)
        · exact Or.inl (Or.inr h)
        · exact Or.inl (Or.inl h)
        · exact Or.inr h
    have hn2 := List.nodup_append.mp hn
    have := ih (A1 ++ x :: A2) M' (by
      have e : (P ++ (A1 ++ x :: A2)) ++ D = (P ++ A1) ++ x :: (A2 ++ D) := by simp
      rw [e]
      exact g4) (by omega) (by rw [g5 _ _ (by omega), h52, lB]; omega) (fun c hc => hb c ((mD c).mp hc)) hrB (by
      refine List.nodup_append.mpr ⟨?_, (List.nodup_cons.mp hn2.2.1).2, fun a ha b hb e => ?_⟩
      · exact hrB.imp (fun {a b} h e => by
          have : a < b := h
          omega)
      · rcases (mB a).mp ha with h | h
        · exact (List.nodup_cons.mp hn2.2.1).1 (h ▸ e ▸ hb)
        · exact hn2.2.2 a h b (List.mem_cons_of_mem _ hb) e) (fun N A' k1 k2 k3 k4 k5 => K N A' k1 (fun y => (k2 y).trans (mD y)) (by rw [k3, List.length_cons]; omega) k4 (cSf_tr g5 k5))
    rw [show ((P.length + (A1 ++ x :: A2).length : Nat) : Int) = ((P.length + A.length : Nat) : Int) + 1 by omega] at this
    exact this
/-- orderCells: the cells of a slot's rule in order, where the order says nothing -/
theorem sp_orderCells {R : PR} {s : Int} (hs : 0 ≤ s ∧ s < 120) (hR : pr_ok 9 R) (hz : mR M s R) (K : ∀ M', mR M' s (nR0 R) → cSf s M M' → Q none M') : wc kc (d + 1) 336 [jR 133, jI s] M Q := by
  obtain ⟨a1, a2, a3, a4⟩ := hz
  obtain ⟨r1, r2, r3, r4, r5, r6, r7, r8⟩ := hR
  have hpi := piK_in ⟨r1, r2⟩
  have h5 : 45 ≤ M 150 s ∧ M 150 s < 53 := by rw [a1]; exact hpi
  have hlen := orC_len (k := R.1) r8 r7
  have fin : ∀ M' L, L = orC R.1 R.2.2 → cS M' s L → cSf s M M' → Q none M' := fun M' L e h f => K M' ⟨by rw [f _ _ (by omega)]; exact a1, by rw [f _ _ (by omega)]; exact a2, by rw [f _ _ (by omega), a3]; unfold nR0; rw [hlen], fun i c hi => h i c (e ▸ hi)⟩ f
  have pk : ∀ k : Fin 8, (piK.getD k 0 = 48 ↔ ((k : Nat) : Int) = 4) ∧ (piK.getD k 0 = 51 ↔ ((k : Nat) : Int) = 1) ∧ (piK.getD k 0 = 52 ↔ ((k : Nat) : Int) = 5) ∧ (piK.getD k 0 = 50 ↔ ((k : Nat) : Int) = 2) := by decide +kernel
  have pk := pk ⟨R.1.toNat, by omega⟩
  dsimp only at pk
  rw [show ((R.1.toNat : Nat) : Int) = R.1 by omega, ← a1] at pk
  obtain ⟨k4, k1, k5, k2⟩ := pk
  have same : R.1 = 4 ∨ R.1 = 1 ∨ R.1 = 5 → Q none M := fun h => fin M R.2.2 (by unfold orC; rw [if_pos h]) a4 cSf_rf
  refine s336 ⟨hs, ⟨by omega, by omega⟩, fun h => same (Or.inl (k4.mp h)), fun n4 => ⟨⟨by omega, by omega⟩, fun h => same (Or.inr (Or.inl (k1.mp h))), fun n1 => ⟨⟨by omega, by omega⟩, fun n5 => ⟨⟨by omega, by omega⟩, ?_⟩, fun h => same (Or.inr (Or.inr (k5.mp h)))⟩⟩⟩
  have hne : ¬ (R.1 = 4 ∨ R.1 = 1 ∨ R.1 = 5) := by
    rintro (h | h | h)
    · exact n4 (k4.mpr h)
    · exact n1 (k1.mpr h)
    · exact n5 (k5.mpr h)
  have gen : ∀ (P T : List Int), R.2.2 = P ++ T → T ≠ [] → P ++ srC T = orC R.1 R.2.2 → wp kc (d + 1) 336 43 [some (jR 133), some (jI s), none, some (jI P.length), some (jI (P.length + 1)), none, none] [] M Q := by
    intro P T e hT eo
    cases T with
    | nil => exact absurd rfl hT
    | cons x D =>
      have hl : R.2.2.length = P.length + (D.length + 1) := by rw [e, List.length_append, List.length_cons]
      have hbT : ∀ c ∈ x :: D, 0 ≤ c ∧ c < 9 := fun c hc => r7 c (by rw [e]; exact List.mem_append_right _ hc)
      have hnT : (x :: D).Nodup := (List.nodup_append.mp (e ▸ r8)).2.1
      have := oc_out (kc := kc) (d := d) (Q := Q) (P := P) hs D [x] M (by
        rw [List.append_assoc, List.singleton_append, ← e]
        exact a4) (by rw [List.length_singleton]; omega) (by rw [a3, hl, List.length_singleton]; omega) (by rw [List.singleton_append]; exact hbT) (List.pairwise_singleton _ _) (by rw [List.singleton_append]; exact hnT) (fun M' A' g1 g2 g3 g4 g5 => fin M' (P ++ A') (by
          rw [← eo]
          congr 1
          refine ris_uniq g1 srC_ris (fun y => ?_)
          rw [g2, List.singleton_append, srC_mem hbT]) g4 g5)
      exact this
  by_cases h2 : R.1 = 2
  · rw [if_pos (k2.mpr h2)]
    have eo : orC R.1 R.2.2 = R.2.2.take 1 ++ srC (R.2.2.drop 1) := by
      unfold orC
      rw [if_neg hne, if_pos h2]
    by_cases hT : R.2.2.drop 1 = []
    · have h1 : R.2.2.length ≤ 1 := List.drop_eq_nil_iff.mp hT
      refine s336_43 ?_
      rw [a3]
      refine ⟨hs, ⟨⟨by omega, by omega⟩, ⟨by omega, by omega⟩⟩, fun _ => fin M R.2.2 ?_ a4 cSf_rf, fun h => by omega⟩
      rw [eo, hT, List.take_of_length_le h1]
      simp [srC]
    · have := gen (R.2.2.take 1) (R.2.2.drop 1) (List.take_append_drop 1 _).symm hT eo.symm
      rw [List.length_take, show min 1 R.2.2.length = 1 by omega] at this
      exact this
  · rw [if_neg (fun h => h2 (k2.mp h))]
    have eo : orC R.1 R.2.2 = srC R.2.2 := by
      unfold orC
      rw [if_neg hne, if_neg h2]
    exact gen [] R.2.2 rfl (fun h => by rw [h] at r5; simp at r5) (by rw [List.nil_append, eo])
end MOC
