/-! join, findPossible of the reference. -/
/-- what these may change -/
def f158 (M N : fx_M) : Prop := ∀ b j, b ≠ 155 → b ≠ 157 → b ≠ 158 → ¬ (b = 133 ∧ j = 48) → N b j = M b j
theorem f158_of {M N : fx_M} (h : f155 M N) : f158 M N := fun b j h1 _ _ _ => h b j h1
theorem f158_tr {M N O : fx_M} (h1 : f158 M N) (h2 : f158 N O) : f158 M O := fun b j a1 a2 a3 a4 => (h2 b j a1 a2 a3 a4).trans (h1 b j a1 a2 a3 a4)
theorem f158_rf {M : fx_M} : f158 M M := fun _ _ _ _ _ _ => rfl
theorem mwr_158 {M N : fx_M} (h : f158 M N) : mwr M N [] := fun b j hb => by
  unfold msc at hb
  exact h b j (by omega) (by omega) (by omega) (by omega)
theorem mz_158 {M N : fx_M} {u : Int} {Z : PZ} (h : mz M u Z) (hf : f158 M N) : mz N u Z := mz_mwr h (mwr_158 hf)
/-- the cells of a rule, and those of a second one that it lacks -/
def jnC (R : PR) (s : Option PR) : List Int := R.2.2 ++ (match s with
  | none => []
  | some R2 => R2.2.2.filter fun c => !(R.2.2.contains c))
theorem jnC_mem1 {R : PR} {s : Option PR} {c : Int} (h : c ∈ R.2.2) : c ∈ jnC R s := List.mem_append_left _ h
theorem jnC_mem2 {R R2 : PR} {c : Int} (h : c ∈ R2.2.2) : c ∈ jnC R (some R2) := by
  unfold jnC
  rw [List.mem_append, List.mem_filter]
  by_cases h1 : c ∈ R.2.2
  · exact Or.inl h1
  · exact Or.inr ⟨h, by simp [h1]⟩
theorem jnC_or {R R2 : PR} {c : Int} (h : c ∈ jnC R (some R2)) : c ∈ R.2.2 ∨ c ∈ R2.2.2 := by
  unfold jnC at h
  rw [List.mem_append, List.mem_filter] at h
  rcases h with h | h
  · exact Or.inl h
  · exact Or.inr h.1
/-- the second rule of a call: none, or the rule of that number -/
def sec (Z : PZ) (q : Int) (s : Option PR) : Prop := (q < 0 ∧ -1 ≤ q ∧ s = none) ∨ ∃ (r : Nat) (R : PR), q = (r : Int) ∧ s = some R ∧ Z.2.2.2.1[r]? = some R
/-- a way of both -/
def okf (Z : PZ) (R : PR) (s : Option PR) (f : Int → Int) : Prop := met Z.1 R (R.2.2.map f) = true ∧ ∀ R2, s = some R2 → met Z.1 R2 (R2.2.2.map f) = true
theorem okf_cg {Z : PZ} {R : PR} {s : Option PR} {f g : Int → Int} (h : okf Z R s f) (e : ∀ c ∈ jnC R s, f c = g c) : okf Z R s g := by
  refine ⟨?_, fun R2 h2 => ?_⟩
  · rw [← List.map_congr_left (fun c hc => e c (jnC_mem1 hc))]
    exact h.1
  · subst h2
    rw [← List.map_congr_left (fun c hc => e c (jnC_mem2 hc))]
    exact h.2 R2 rfl
section PSS
variable {kc : List va_E} {d : Nat} {Q : Option fx_V → fx_M → Prop} {Z : PZ}
theorem ij_loop {M : fx_M} {J : List Int} (hn : M 133 48 = (J.length : Nat)) (h8 : J.length ≤ 8) (hc : ∀ i : Nat, i < J.length → M 157 (i : Int) = J.getD i 0 ∧ 0 ≤ J.getD i 0 ∧ J.getD i 0 < 9) {c : Int} (hcb : 0 ≤ c ∧ c < 9) (K : Q (some (jI (bI (decide (c ∈ J))))) M) : ∀ (t i : Nat) (b : Bool), i + t = J.length → b = decide (c ∈ J.take i) → wp kc (d + 1) 299 4 [some (jR 133), some (jI c), some (jI (bI b)), some (jI i)] [] M Q := by
  intro t
  induction t with
  | zero =>
    intro i b hi hb
    refine s299_4 ?_
    rw [hn]
    rw [List.take_of_length_le (by omega)] at hb
    rw [← hb] at K
    exact ⟨⟨⟨by omega, by omega⟩, ⟨by omega, by omega⟩⟩, fun _ => ⟨by unfold bI; split <;> omega, K⟩, fun h => by omega⟩
  | succ t ih =>
    intro i b hi hb
    have hil : i < J.length := by omega
    obtain ⟨h1, h2, h3⟩ := hc i hil
    refine s299_4 ?_
    rw [hn, h1]
    refine ⟨⟨⟨by omega, by omega⟩, ⟨by omega, by omega⟩⟩, fun h => by omega, fun _ => ⟨by unfold bI; split <;> exact ⟨by omega, by omega⟩, fun _ => ⟨by omega, by omega⟩, fun _ => ⟨by omega, by omega⟩, fun _ => ⟨by omega, by omega⟩, ?_⟩⟩
    have e : (if bI b = 0 then ((if J.getD i 0 = c then (1 : Int) else 0) : Int) else 1) = bI (decide (c ∈ J.take (i + 1))) := by
      rw [take_snocD hil]
      have em : (c ∈ J.take i ++ [J.getD i 0]) ↔ (c ∈ J.take i ∨ c = J.getD i 0) := by simp
      unfold bI
      cases b with
      | true =>
        have hm : c ∈ J.take i := of_decide_eq_true hb.symm
        rw [if_neg (by decide), if_pos (decide_eq_true (em.mpr (Or.inl hm)))]
      | false =>
        have hm : c ∉ J.take i := of_decide_eq_false hb.symm
        rw [if_pos (by decide)]
        by_cases ec : J.getD i 0 = c
        · rw [if_pos ec, if_pos (decide_eq_true (em.mpr (Or.inr ec.symm)))]
        · rw [if_neg ec, if_neg]
          rw [decide_eq_true_iff]
          intro h
          rcases em.mp h with h | h
          · exact hm h
          · exact ec h.symm
    rw [e]
    have nx := ih (i + 1) _ (by omega) rfl
    rw [show ((i + 1 : Nat) : Int) = (i : Int) + 1 by omega] at nx
    exact nx
/-- the joint cells so far -/
def jcl (M : fx_M) (J : List Int) : Prop := M 133 48 = (J.length : Nat) ∧ ∀ i : Nat, i < J.length → M 157 (i : Int) = J.getD i 0
theorem jcl_snoc {M : fx_M} {J : List Int} {c : Int} (h : jcl M J) : jcl (fx_up (fx_up M 157 (M 133 48) c) 133 48 (M 133 48 + 1)) (J ++ [c]) := by
  refine ⟨?_, fun i hi => ?_⟩
  · rw [fx_up_self, h.1]
    simp
  · simp only [List.length_append, List.length_cons, List.length_nil] at hi
    rw [fx_up_na (by decide), h.1]
    by_cases e : i = J.length
    · subst e
      rw [fx_up_self, getD_end]
    · rw [fx_up_nk (by omega), getD_app (by omega)]
      exact h.2 i (by omega)
theorem jn_f {M : fx_M} {a v w : Int} : f158 M (fx_up (fx_up M 157 a v) 133 48 w) := fun b j _ h2 _ h4 => by rw [fx_up_ne h4, fx_up_na h2]
theorem jn_two {R R2 : PR} {r2 : Nat} (ho : pz_ok Z) (hR : pr_ok (Z.1 * Z.2.1) R) (hR2 : Z.2.2.2.1[r2]? = some R2) {M0 : fx_M} (K : ∀ M', f158 M0 M' → jcl M' (jnC R (some R2)) → Q none M') : ∀ (t i : Nat) (M : fx_M), i + t = R2.2.2.length → f158 M0 M → mz M 0 Z → jcl M (R.2.2 ++ (R2.2.2.take i).filter fun c => !(R.2.2.contains c)) → wp kc (d + 2) 298 54 [some (jR 133), none, some (jI r2), some (jI i)] [] M Q := by
  obtain ⟨hRo, hr12⟩ := rule_in ho hR2
  have h9 := pz_n ho
  have l2 := hRo.2.2.2.2.2.1
  have l1 := hR.2.2.2.2.2.1
  intro t
  induction t with
  | zero =>
    intro i M hi hf hz hj
    obtain ⟨a1, a2, a3, a4⟩ := hz.2.2.2.2.1 r2 R2 hR2
    rw [show (12 * (0 : Int) + (r2 : Int)) = r2 by omega] at a3
    refine s298_54 ⟨⟨by omega, by omega⟩, fun h => by omega, fun _ => ⟨⟨by omega, by omega⟩, ?_⟩⟩
    rw [a3]
    rw [List.take_of_length_le (by omega)] at hj
    exact ⟨⟨⟨by omega, by omega⟩, ⟨by omega, by omega⟩⟩, fun _ => K M hf hj, fun h => by omega⟩
  | succ t ih =>
    intro i M hi hf hz hj
    have hil : i < R2.2.2.length := by omega
    obtain ⟨a1, a2, a3, a4⟩ := hz.2.2.2.2.1 r2 R2 hR2
    rw [show (12 * (0 : Int) + (r2 : Int)) = r2 by omega] at a3 a4
    have hc := a4 i _ (List.getElem?_eq_getElem hil)
    have hcb := hRo.2.2.2.2.2.2.1 _ (List.getElem_mem hil)
    have eg : R2.2.2.getD i 0 = R2.2.2[i] := by rw [List.getD_eq_getElem?_getD, List.getElem?_eq_getElem hil]; rfl
    have hfl : ((R2.2.2.take i).filter fun c => !(R.2.2.contains c)).length ≤ i := by
      refine Nat.le_trans (List.length_filter_le _ _) ?_
      rw [List.length_take]
      omega
    have hJl : (R.2.2 ++ (R2.2.2.take i).filter fun c => !(R.2.2.contains c)).length ≤ 7 := by
      rw [List.length_append]
      omega
    refine s298_54 ⟨⟨by omega, by omega⟩, fun h => by omega, fun _ => ⟨⟨by omega, by omega⟩, ?_⟩⟩
    rw [a3, hc]
    refine ⟨⟨⟨by omega, by omega⟩, ⟨by omega, by omega⟩⟩, fun h => by omega, fun _ => ⟨⟨by omega, by omega⟩, s299 ?_⟩⟩
    have hm : (R2.2.2[i] ∈ R.2.2 ++ (R2.2.2.take i).filter fun c => !(R.2.2.contains c)) ↔ R2.2.2[i] ∈ R.2.2 := by
      rw [List.mem_append]
      constructor
      · rintro (h | h)
        · exact h
        · exfalso
          have h1 := (List.mem_filter.mp h).1
          have hnd := hRo.2.2.2.2.2.2.2
          obtain ⟨j, hj1, hj2⟩ := List.mem_iff_getElem.mp h1
          rw [List.length_take] at hj1
          rw [List.getElem_take] at hj2
          have := nodup_iff.mp hnd i j hil (by omega)
          rw [eg, List.getD_eq_getElem?_getD, List.getElem?_eq_getElem (by omega)] at this
          exact this hj2.symm
      · exact Or.inl
    refine ij_loop (J := R.2.2 ++ (R2.2.2.take i).filter fun c => !(R.2.2.contains c)) hj.1 (by omega) (fun k hk => ⟨hj.2 k hk, ?_⟩) ⟨hcb.1, by omega⟩ (s298_82 ?_) _ 0 false (Nat.zero_add _) (by simp)
    · have hm2 := getD_mem hk
      rcases List.mem_append.mp hm2 with h | h
      · have := hR.2.2.2.2.2.2.1 _ h
        omega
      · have := hRo.2.2.2.2.2.2.1 _ (List.mem_of_mem_take (List.mem_filter.mp h).1)
        omega
    · rw [hc]
      have et : R2.2.2.take (i + 1) = R2.2.2.take i ++ [R2.2.2[i]] := by rw [take_snocD hil, eg]
      have go : ∀ M', f158 M0 M' → mz M' 0 Z → jcl M' (R.2.2 ++ (R2.2.2.take (i + 1)).filter fun c => !(R.2.2.contains c)) → wp kc (d + 2) 298 54 [some (jR 133), none, some (jI r2), some (jI ((i : Int) + 1))] [] M' Q := fun M' h1 h2 h3 => by
        have nx := ih (i + 1) M' (by omega) h1 h2 h3
        rw [show ((i + 1 : Nat) : Int) = (i : Int) + 1 by omega] at nx
        exact nx
      unfold bI
      by_cases hin : R2.2.2[i] ∈ R.2.2
      · rw [if_pos (decide_eq_true (hm.mpr hin))]
        refine ⟨⟨by omega, by omega⟩, fun h => by omega, fun _ => go M hf hz ?_⟩
        rw [et, List.filter_append]
        have : [R2.2.2[i]].filter (fun c => !(R.2.2.contains c)) = [] := by simp [hin]
        rw [this, List.append_nil]
        exact hj
      · rw [if_neg (by rw [decide_eq_true_iff]; exact fun h => hin (hm.mp h))]
        refine ⟨⟨by omega, by omega⟩, fun _ => ⟨⟨by omega, by omega⟩, by rw [hj.1]; omega, go _ (f158_tr hf jn_f) (mz_158 hz jn_f) ?_⟩, fun h => absurd rfl h⟩
        rw [et, List.filter_append]
        have : [R2.2.2[i]].filter (fun c => !(R.2.2.contains c)) = [R2.2.2[i]] := by simp [hin]
        rw [this, ← List.append_assoc]
        exact jcl_snoc hj
theorem jn_one {R : PR} {r : Nat} {s : Option PR} {q : Int} (ho : pz_ok Z) (hR : Z.2.2.2.1[r]? = some R) (hs : sec Z q s) {M0 : fx_M} (K : ∀ M', f158 M0 M' → jcl M' (jnC R s) → Q none M') : ∀ (t i : Nat) (M : fx_M), i + t = R.2.2.length → f158 M0 M → mz M 0 Z → jcl M (R.2.2.take i) → wp kc (d + 2) 298 7 [some (jR 133), some (jI r), some (jI q), some (jI i)] [] M Q := by
  obtain ⟨hRo, hr12⟩ := rule_in ho hR
  have h9 := pz_n ho
  have l1 := hRo.2.2.2.2.2.1
  intro t
  induction t with
  | zero =>
    intro i M hi hf hz hj
    obtain ⟨a1, a2, a3, a4⟩ := hz.2.2.2.2.1 r R hR
    rw [show (12 * (0 : Int) + (r : Int)) = r by omega] at a3
    refine s298_7 ?_
    rw [a3]
    refine ⟨⟨by omega, by omega⟩, ⟨⟨by omega, by omega⟩, ⟨by omega, by omega⟩⟩, fun _ => ?_, fun h => by omega⟩
    rw [List.take_of_length_le (by omega)] at hj
    rcases hs with ⟨h1, h2, h3⟩ | ⟨r2, R2, h1, h2, h3⟩
    · subst h3
      refine s298_54 ⟨⟨by omega, by omega⟩, fun _ => K M hf ?_, fun h => by omega⟩
      unfold jnC
      rw [List.append_nil]
      exact hj
    · subst h1 h2
      exact jn_two ho hRo h3 K R2.2.2.length 0 M (by omega) hf hz (by simpa using hj)
  | succ t ih =>
    intro i M hi hf hz hj
    have hil : i < R.2.2.length := by omega
    obtain ⟨a1, a2, a3, a4⟩ := hz.2.2.2.2.1 r R hR
    rw [show (12 * (0 : Int) + (r : Int)) = r by omega] at a3 a4
    have hc := a4 i _ (List.getElem?_eq_getElem hil)
    have eg : R.2.2.getD i 0 = R.2.2[i] := by rw [List.getD_eq_getElem?_getD, List.getElem?_eq_getElem hil]; rfl
    refine s298_7 ?_
    rw [a3, hc]
    refine ⟨⟨by omega, by omega⟩, ⟨⟨by omega, by omega⟩, ⟨by omega, by omega⟩⟩, fun h => by omega, fun _ => ⟨⟨by omega, by omega⟩, ?_, ?_⟩⟩
    · rw [hj.1, List.length_take]
      omega
    · have nx := ih (i + 1) _ (by omega) (f158_tr hf jn_f) (mz_158 hz jn_f) (by
        rw [take_snocD hil, eg]
        exact jcl_snoc hj)
      rw [show ((i + 1 : Nat) : Int) = (i : Int) + 1 by omega] at nx
      exact nx
/-- the joint cells are cells, each once -/
theorem jnC_ok {R : PR} {s : Option PR} {q : Int} (ho : pz_ok Z) (hR : pr_ok (Z.1 * Z.2.1) R) (hs : sec Z q s) : (jnC R s).length ≤ 8 ∧ (jnC R s).Nodup ∧ ∀ c ∈ jnC R s, 0 ≤ c ∧ c < Z.1 * Z.2.1 := by
  have l1 := hR.2.2.2.2.2.1
  rcases hs with ⟨h1, h2, h3⟩ | ⟨r2, R2, h1, h2, h3⟩
  · subst h3
    unfold jnC
    rw [List.append_nil]
    exact ⟨by omega, hR.2.2.2.2.2.2.2, hR.2.2.2.2.2.2.1⟩
  · subst h2
    have hR2 := (rule_in ho h3).1
    have l2 := hR2.2.2.2.2.2.1
    refine ⟨?_, ?_, fun c hc => ?_⟩
    · unfold jnC
      rw [List.length_append]
      have := List.length_filter_le (fun c => !(R.2.2.contains c)) R2.2.2
      simp only
      omega
    · unfold jnC
      rw [List.nodup_append]
      refine ⟨hR.2.2.2.2.2.2.2, List.Pairwise.filter _ hR2.2.2.2.2.2.2.2, fun a ha b hb e => ?_⟩
      subst e
      have := (List.mem_filter.mp hb).2
      simp [ha] at this
    · rcases jnC_or hc with h | h
      · exact hR.2.2.2.2.2.2.1 c h
      · exact hR2.2.2.2.2.2.2.1 c h
theorem sp_join {R : PR} {r : Nat} {s : Option PR} {q : Int} (ho : pz_ok Z) (hR : Z.2.2.2.1[r]? = some R) (hs : sec Z q s) {M : fx_M} (hz : mz M 0 Z) (K : ∀ M', f158 M M' → mjt M' (jnC R s) → Q none M') : wc kc (d + 2) 298 [jR 133, jI r, jI q] M Q := by
  have h9 := pz_n ho
  have f0 : f158 M (fx_up M 133 48 0) := fun b j _ _ _ h4 => fx_up_ne h4
  refine s298 (jn_one ho hR hs (M0 := M) (fun M' h1 h2 => K M' h1 ?_) R.2.2.length 0 _ (by omega) f0 (mz_158 hz f0) ⟨by rw [fx_up_self]; simp, fun i hi => by simp at hi⟩)
  obtain ⟨j1, j2, j3⟩ := jnC_ok ho (rule_in ho hR).1 hs
  exact ⟨h2.1, j1, h2.2, fun i hi => by have := j3 _ (getD_mem hi); omega, j2⟩
end PSS
