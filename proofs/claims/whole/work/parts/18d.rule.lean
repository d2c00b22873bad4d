/-! PUZZLES: a rule is added (the class). -/
/-- cells that a rule may have, of n cells -/
def okc (n : Int) (l : List Int) : Prop := 1 ≤ l.length ∧ l.length ≤ 4 ∧ (∀ c ∈ l, 0 ≤ c ∧ c < n) ∧ l.Nodup
def z_add (Z : PZ) (R : PR) : PZ := (Z.1, Z.2.1, Z.2.2.1, Z.2.2.2.1 ++ [R], Z.2.2.2.2)
theorem z_add_ok {Z : PZ} {R : PR} (h : pz_ok Z) (hr : Z.2.2.2.1.length < 12) (hR : pr_ok (Z.1 * Z.2.1) R) : pz_ok (z_add Z R) := by
  obtain ⟨h1, h2, h3, h4, h5, h6, h7, h8, h9, h10, h11⟩ := h
  refine ⟨h1, h2, h3, h4, h5, h6, ?_, fun X hX => ?_, h9, h10, h11⟩
  · show (Z.2.2.2.1 ++ [R]).length ≤ 12
    rw [List.length_append]
    simp
    omega
  · rcases List.mem_append.mp hX with hX | hX
    · exact h8 X hX
    · rw [List.mem_singleton.mp hX]
      exact hR
theorem take_snoc {l : List Int} {i : Nat} {c : Int} (h : l[i]? = some c) : l.take (i + 1) = l.take i ++ [c] := by
  rw [List.take_add_one, h]
  rfl
section PZA
variable {kc : List va_E} {d p a : Nat} {M : fx_M} {Q : Option fx_V → fx_M → Prop} {Z : PZ}
theorem arec_loop {l : List Int} (Hp : fx_puz p) (Ha : fx_a a = some (0, 4)) (hn : 1 ≤ M p 2 ∧ M p 2 ≤ 9) (h4 : l.length ≤ 4) (hl : ∀ (i : Nat) (c : Int), l[i]? = some c → M a i = c) (hin : ∀ c ∈ l, 0 ≤ c ∧ c < 1000) (K1 : (∀ c ∈ l, 0 ≤ c ∧ c < M p 2) → l.Nodup → Q (some (jI 1)) M) (K0 : ¬ ((∀ c ∈ l, 0 ≤ c ∧ c < M p 2) ∧ l.Nodup) → Q (some (jI 0)) M) : ∀ (k i : Nat), i + k = l.length → (∀ c ∈ l.take i, 0 ≤ c ∧ c < M p 2) → (l.take i).Nodup → wp kc (d + 1) 53 23 [some (jR p), some (jR a), some (jI l.length), some (jI (area (l.take i))), some (jI i), none] [] M Q
  | 0, i, hi, h1, h2 => by
    have e : l.take i = l := List.take_of_length_le (by omega)
    rw [e] at h1 h2
    exact s53_23 Hp Ha ⟨⟨⟨by omega, by omega⟩, ⟨by omega, by omega⟩⟩, fun _ => K1 h1 h2, fun h => by omega⟩
  | k + 1, i, hi, h1, h2 => by
    have hlt : i < l.length := by omega
    have hg : l[i]? = some l[i] := List.getElem?_eq_getElem hlt
    have hv := hl i _ hg
    have hmem : l[i] ∈ l := List.getElem_mem hlt
    have hb := hin _ hmem
    generalize l[i] = c at hg hv hmem hb
    have h31 : ∀ x ∈ l.take i, 0 ≤ x ∧ x < 31 := fun x hx => by
      have := h1 x hx
      omega
    have hai := area_in h31
    refine s53_23 Hp Ha ?_
    rw [hv]
    refine ⟨⟨⟨by omega, by omega⟩, ⟨by omega, by omega⟩⟩, fun h => by omega, fun _ => ⟨⟨by omega, by omega⟩, ⟨by omega, by omega⟩, fun h => by omega, fun _ => ⟨⟨⟨by omega, by omega⟩, ⟨by omega, by omega⟩⟩, fun h => K0 (fun hx => ?_), fun hcn => ?_⟩⟩⟩
    · have := hx.1 c hmem
      omega
    · rw [area_test h31 (by omega)]
      refine ⟨by split <;> exact ⟨by omega, by omega⟩, fun h => ?_, fun h => K0 (fun hx => ?_)⟩
      · have hnm : ¬ c ∈ l.take i := fun hm => by
          rw [if_pos hm] at h
          omega
        have ih := arec_loop Hp Ha hn h4 hl hin K1 K0 k (i + 1) (by omega) (by
          rw [take_snoc hg]
          intro x hx
          rcases List.mem_append.mp hx with hx | hx
          · exact h1 x hx
          · rw [List.mem_singleton.mp hx]
            omega) (by
          rw [take_snoc hg]
          exact List.nodup_append.mpr ⟨h2, by simp, fun x hx y hy => by
            rw [List.mem_singleton.mp hy]
            exact fun hxy => hnm (hxy ▸ hx)⟩)
        rw [take_snoc hg, area_app] at ih
        have e1 : ((i + 1 : Nat) : Int) = (i : Int) + 1 := by omega
        rw [e1] at ih
        exact ih
      · have hm : c ∈ l.take i := by
          by_cases hm : c ∈ l.take i
          · exact hm
          · rw [if_neg hm] at h
            exact absurd rfl h
        have hd := hx.2
        rw [← List.take_append_drop i l, List.nodup_append] at hd
        refine hd.2.2 c hm c ?_ rfl
        have : (l.drop i)[0]? = some c := by
          rw [List.getElem?_drop]
          exact hg
        exact List.mem_of_getElem? this
/-- areCells: may a rule have these cells -/
theorem sp_areCells {l : List Int} (Hp : fx_puz p) (Ha : fx_a a = some (0, 4)) (hn : 1 ≤ M p 2 ∧ M p 2 ≤ 9) (hll : l.length ≤ 100000) (hl : ∀ (i : Nat) (c : Int), l[i]? = some c → i < 4 → M a i = c) (hin : ∀ c ∈ l, 0 ≤ c ∧ c < 1000) (K1 : okc (M p 2) l → Q (some (jI 1)) M) (K0 : ¬ okc (M p 2) l → Q (some (jI 0)) M) : wc kc (d + 1) 53 [jR p, jR a, jI l.length] M Q := by
  unfold okc at *
  refine s53 Hp Ha ⟨⟨by omega, by omega⟩, fun h => K0 (by omega), fun h1 => ⟨⟨by omega, by omega⟩, fun h => K0 (by omega), fun h4 => ⟨⟨by omega, by omega⟩, fun _ => ?_, fun h => by omega⟩⟩⟩
  have h4 : l.length ≤ 4 := by omega
  refine arec_loop Hp Ha hn h4 (fun i c hi => hl i c hi (by
    have := (List.getElem?_eq_some_iff.mp hi).1
    omega)) hin (fun h2 h3 => K1 ⟨by omega, h4, h2, h3⟩) (fun hx => K0 (fun hy => hx ⟨hy.2.2.1, hy.2.2.2⟩)) l.length 0 (by omega) (by simp) (by simp)
theorem app_loop {l : List Int} {r : Int} (Hp : fx_puz p) (Ha : fx_a a = some (0, 4)) (ha : a ≠ p ∧ a ≠ p + 1 ∧ a ≠ p + 2 ∧ a ≠ p + 3 ∧ a ≠ p + 4 ∧ a ≠ p + 5) (hr : 0 ≤ r ∧ r < 12) (h4 : l.length ≤ 4) (hin : ∀ c ∈ l, 0 ≤ c ∧ c < 9) : ∀ (k : Nat) (M : fx_M) (i : Nat), i + k = 4 → M p 4 = r → (∀ (j : Nat) (c : Int), l[j]? = some c → M a j = c) → (∀ j : Nat, j < i → M (p + 4) (4 * r + j) = l.getD j 9) → M (p + 5) r = area (l.take i) → (∀ M', M' p 4 = r + 1 → (∀ j : Nat, j < 4 → M' (p + 4) (4 * r + j) = l.getD j 9) → M' (p + 5) r = area l → (∀ b j, ¬ (b = p ∧ j = 4) → ¬ (b = p + 4 ∧ 4 * r ≤ j ∧ j < 4 * r + 4) → ¬ (b = p + 5 ∧ j = r) → M' b j = M b j) → Q none M') → wp kc (d + 1) 54 60 [some (jR p), none, none, some (jR a), some (jI l.length), some (jI i)] [] M Q
  | 0, M, i, hi, hm4, hl, hc, har, K => by
    have e : l.take i = l := List.take_of_length_le (by omega)
    rw [e] at har
    refine s54_60 Hp Ha ⟨⟨by omega, by omega⟩, fun _ => K _ (by rw [fx_up_self, hm4]) (fun j hj => by rw [fx_up_na (by omega)]; exact hc j (by omega)) (by rw [fx_up_na (by omega)]; exact har) (fun b j h1 h2 h3 => fx_up_ne (by omega)), fun h => by omega⟩
  | k + 1, M, i, hi, hm4, hl, hc, har, K => by
    have h31 : ∀ x ∈ l.take i, 0 ≤ x ∧ x < 31 := fun x hx => by
      have := hin x (List.take_subset _ _ hx)
      omega
    have hai := area_in h31
    have e1 : ((i + 1 : Nat) : Int) = (i : Int) + 1 := by omega
    refine s54_60 Hp Ha ?_
    rw [hm4, har]
    refine ⟨⟨by omega, by omega⟩, fun h => by omega, fun _ => ⟨⟨by omega, by omega⟩, ⟨by omega, by omega⟩, fun _ => ⟨by omega, by omega⟩, ⟨by omega, by omega⟩, hr, ⟨by omega, by omega⟩, ⟨by omega, by omega⟩, fun _ => ⟨by omega, by omega⟩, hr, ?_⟩⟩
    rw [fx_up_na (show a ≠ p + 4 by omega)]
    by_cases hlt : i < l.length
    · have hg : l[i]? = some l[i] := List.getElem?_eq_getElem hlt
      have hv := hl i _ hg
      rw [if_pos (by omega), if_pos (by omega), hv, ← area_app, ← take_snoc hg]
      have ih := app_loop Hp Ha ha hr h4 hin k (fx_up (fx_up M (p + 4) (4 * r + i) l[i]) (p + 5) r (area (l.take (i + 1)))) (i + 1) (by omega) (by rw [fx_up_na (by omega), fx_up_na (by omega), hm4]) (fun j c hj => by rw [fx_up_na (by omega), fx_up_na (by omega)]; exact hl j c hj) (fun j hj => by
        rw [fx_up_na (by omega)]
        by_cases hji : j = i
        · subst hji
          rw [fx_up_self, List.getD_eq_getElem?_getD, hg]
          rfl
        · rw [fx_up_nk (by omega)]
          exact hc j (by omega)) (fx_up_self _ _ _ _) (fun M' a1 a2 a3 a4 => K M' a1 a2 a3 (fun b j h1 h2 h3 => by rw [a4 b j h1 h2 h3, fx_up_ne (by omega), fx_up_ne (by omega)]))
      rw [e1] at ih
      exact ih
    · have et : l.take (i + 1) = l.take i := by
        rw [List.take_of_length_le (by omega), List.take_of_length_le (by omega)]
      have eo : fx_or (area (l.take i)) 0 = area (l.take i) := by
        rw [fx_or_nat hai (by omega)]
        show ((_ ||| 0 : Nat) : Int) = _
        rw [Nat.or_zero]
        omega
      rw [if_neg (by omega), if_neg (by omega), eo]
      have ih := app_loop Hp Ha ha hr h4 hin k (fx_up (fx_up M (p + 4) (4 * r + i) 9) (p + 5) r (area (l.take i))) (i + 1) (by omega) (by rw [fx_up_na (by omega), fx_up_na (by omega), hm4]) (fun j c hj => by rw [fx_up_na (by omega), fx_up_na (by omega)]; exact hl j c hj) (fun j hj => by
        rw [fx_up_na (by omega)]
        by_cases hji : j = i
        · subst hji
          rw [fx_up_self, List.getD_eq_getElem?_getD, List.getElem?_eq_none (by omega)]
          rfl
        · rw [fx_up_nk (by omega)]
          exact hc j (by omega)) (by rw [fx_up_self, et]) (fun M' a1 a2 a3 a4 => K M' a1 a2 a3 (fun b j h1 h2 h3 => by rw [a4 b j h1 h2 h3, fx_up_ne (by omega), fx_up_ne (by omega)]))
      rw [e1] at ih
      exact ih
/-- append: a rule more -/
theorem sp_append {l : List Int} {k n : Int} (Hp : fx_puz p) (Ha : fx_a a = some (0, 4)) (ha : a ≠ p ∧ a ≠ p + 1 ∧ a ≠ p + 2 ∧ a ≠ p + 3 ∧ a ≠ p + 4 ∧ a ≠ p + 5) (hz : cz M p Z) (ho : pz_ok Z) (hr : Z.2.2.2.1.length < 12) (h1 : 1 ≤ l.length) (h4 : l.length ≤ 4) (hl : ∀ (i : Nat) (c : Int), l[i]? = some c → M a i = c) (hin : ∀ c ∈ l, 0 ≤ c ∧ c < 9) (K : ∀ M', cz M' p (z_add Z (k, n, l)) → (∀ b j, ¬ (p ≤ b ∧ b ≤ p + 5) → M' b j = M b j) → Q none M') : wc kc (d + 1) 54 [jR p, jI k, jI n, jR a, jI l.length] M Q := by
  obtain ⟨z0, z1, z2, z3, z4, z5, z6, z7, z8, zw⟩ := hz
  have hr4 : 0 ≤ M p 4 ∧ M p 4 < 12 := by omega
  refine s54 Hp Ha ⟨⟨by omega, by omega⟩, fun h => by omega, fun _ => ⟨⟨by omega, by omega⟩, fun _ => ⟨hr4, hr4, hr4, hr4, ?_⟩, fun h => by omega⟩⟩
  have ui : ∀ (b : Nat) (j : Int), b ≠ p + 1 → b ≠ p + 2 → b ≠ p + 3 → b ≠ p + 5 → (fx_up (fx_up (fx_up (fx_up M (p + 1) (M p 4) k) (p + 2) (M p 4) n) (p + 3) (M p 4) l.length) (p + 5) (M p 4) 0) b j = M b j := fun b j b1 b2 b3 b5 => by
    rw [fx_up_na b5, fx_up_na b3, fx_up_na b2, fx_up_na b1]
  have hm4 : (fx_up (fx_up (fx_up (fx_up M (p + 1) (M p 4) k) (p + 2) (M p 4) n) (p + 3) (M p 4) l.length) (p + 5) (M p 4) 0) p 4 = M p 4 := ui p 4 (by omega) (by omega) (by omega) (by omega)
  refine app_loop Hp Ha ha hr4 h4 hin 4 _ 0 (by omega) hm4 (fun j c hj => by rw [ui a j (by omega) (by omega) (by omega) (by omega)]; exact hl j c hj) (fun j hj => by omega) (by rw [fx_up_self]; rfl) (fun M' m4 mc ma mf => K M' ?_ (fun b j hb => by rw [mf b j (by omega) (by omega) (by omega), ui b j (by omega) (by omega) (by omega) (by omega)]))
  have f : ∀ j : Int, j ≠ 4 → M' p j = M p j := fun j hj => by rw [mf p j (by omega) (by omega) (by omega), ui p j (by omega) (by omega) (by omega) (by omega)]
  have hlen : ((z_add Z (k, n, l)).2.2.2.1.length : Int) = Z.2.2.2.1.length + 1 := by
    show ((Z.2.2.2.1 ++ [(k, n, l)]).length : Int) = _
    rw [List.length_append]
    simp
  refine ⟨by rw [f 0 (by decide)]; exact z0, by rw [f 1 (by decide)]; exact z1, by rw [f 2 (by decide)]; exact z2, by rw [f 3 (by decide)]; exact z3, by rw [m4, z4, hlen], fun r R hR => ?_, fun c hc => by rw [mf _ _ (by omega) (by omega) (by omega), ui _ _ (by omega) (by omega) (by omega) (by omega)]; exact z6 c hc, by rw [f 12 (by decide)]; exact z7, by rw [f 12 (by decide), hlen]; omega, fun r R hR hrk j hj => by
    have hR : (Z.2.2.2.1 ++ [(k, n, l)])[r]? = some R := hR
    rw [f 12 (by decide)] at hrk
    rw [List.getElem?_append_left (by omega)] at hR
    rw [mf _ _ (by omega) (by omega) (by omega), ui _ _ (by omega) (by omega) (by omega) (by omega)]
    exact zw r R hR hrk j hj⟩
  have hR : (Z.2.2.2.1 ++ [(k, n, l)])[r]? = some R := hR
  by_cases hrl : r < Z.2.2.2.1.length
  · rw [List.getElem?_append_left hrl] at hR
    obtain ⟨a1, a2, a3, a4, a5⟩ := z5 r R hR
    have hrM : (r : Int) ≠ M p 4 := by omega
    refine ⟨?_, ?_, ?_, fun i hi => ?_, ?_⟩
    · rw [mf _ _ (by omega) (by omega) (by omega), fx_up_na (by omega), fx_up_na (by omega), fx_up_na (by omega), fx_up_nk hrM]
      exact a1
    · rw [mf _ _ (by omega) (by omega) (by omega), fx_up_na (by omega), fx_up_na (by omega), fx_up_nk hrM, fx_up_na (by omega)]
      exact a2
    · rw [mf _ _ (by omega) (by omega) (by omega), fx_up_na (by omega), fx_up_nk hrM, fx_up_na (by omega), fx_up_na (by omega)]
      exact a3
    · rw [mf _ _ (by omega) (by omega) (by omega), ui _ _ (by omega) (by omega) (by omega) (by omega)]
      exact a4 i hi
    · rw [mf _ _ (by omega) (by omega) (by omega), fx_up_nk hrM, fx_up_na (by omega), fx_up_na (by omega), fx_up_na (by omega)]
      exact a5
  · have hrr : r = Z.2.2.2.1.length := by
      have := (List.getElem?_eq_some_iff.mp hR).1
      rw [List.length_append] at this
      simp at this
      omega
    rw [List.getElem?_append_right (by omega), hrr, Nat.sub_self] at hR
    have hR : (k, n, l) = R := by simpa using hR
    subst hR
    have hrM : (r : Int) = M p 4 := by omega
    rw [hrM]
    refine ⟨?_, ?_, ?_, fun i hi => mc i hi, ma⟩
    · rw [mf _ _ (by omega) (by omega) (by omega), fx_up_na (by omega), fx_up_na (by omega), fx_up_na (by omega), fx_up_self]
    · rw [mf _ _ (by omega) (by omega) (by omega), fx_up_na (by omega), fx_up_na (by omega), fx_up_self]
    · rw [mf _ _ (by omega) (by omega) (by omega), fx_up_na (by omega), fx_up_self]
/-- addRule: no cell, no number, no room, or done -/
theorem sp_addRule {l : List Int} {k n : Int} (Hp : fx_puz p) (Ha : fx_a a = some (0, 4)) (ha : a ≠ p ∧ a ≠ p + 1 ∧ a ≠ p + 2 ∧ a ≠ p + 3 ∧ a ≠ p + 4 ∧ a ≠ p + 5) (hz : cz M p Z) (ho : pz_ok Z) (hn : 0 ≤ n ∧ n < 1000) (hll : l.length ≤ 100000) (hl : ∀ (i : Nat) (c : Int), l[i]? = some c → i < 4 → M a i = c) (hin : ∀ c ∈ l, 0 ≤ c ∧ c < 1000) (K0 : ¬ okc (Z.1 * Z.2.1) l → Q (some (jR 1000017)) M) (K1 : okc (Z.1 * Z.2.1) l → 99 < n → Q (some (jR 1000019)) M) (K2 : okc (Z.1 * Z.2.1) l → n ≤ 99 → 12 ≤ Z.2.2.2.1.length → Q (some (jR 1000021)) M) (K3 : okc (Z.1 * Z.2.1) l → n ≤ 99 → Z.2.2.2.1.length < 12 → ∀ M', cz M' p (z_add Z (k, n, l)) → (∀ b j, ¬ (p ≤ b ∧ b ≤ p + 5) → M' b j = M b j) → Q (some (jR 1000013)) M') : wc kc (d + 2) 52 [jR p, jI k, jI n, jR a, jI l.length] M Q := by
  have hn9 := pz_n ho
  have hz2 := hz
  obtain ⟨z0, z1, z2, z3, z4, z5, z6, z7, z8⟩ := hz
  have o7 := ho.2.2.2.2.2.2.1
  rw [← z2] at K0 K1 K2 K3
  refine s52 Hp Ha (sp_areCells Hp Ha (by rw [z2]; exact hn9) hll hl hin (fun hok => s52_7 Hp Ha ⟨i01.2, fun _ => ⟨⟨by omega, by omega⟩, fun h99 => ⟨⟨by omega, by omega⟩, fun h12 => ?_, fun h12 => K2 hok (by omega) (by omega)⟩, fun h99 => K1 hok h99⟩, fun h => by omega⟩) (fun hok => s52_7 Hp Ha ⟨i01.1, fun h => absurd rfl h, fun _ => K0 hok⟩))
  refine sp_append Hp Ha ha hz2 ho (by omega) hok.1 hok.2.1 (fun i c hi => hl i c hi (by
    have := (List.getElem?_eq_some_iff.mp hi).1
    have := hok.2.1
    omega)) (fun c hc => by
    have := hok.2.2.1 c hc
    omega) (fun M' hM hf => s52_43 Hp Ha (K3 hok (by omega) (by omega) M' hM hf))
end PZA
