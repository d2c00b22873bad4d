/-! PUZZLES: a rule is added (the reference). -/
section PZM
variable {kc : List va_E} {d : Nat} {M : fx_M} {Q : Option fx_V → fx_M → Prop} {Z : PZ} {u : Int}
theorem mput_loop {l : List Int} {r : Int} (hu : 0 ≤ u ∧ u < 10) (hr : 12 * u ≤ r ∧ r < 12 * u + 12) (h4 : l.length ≤ 4) : ∀ (k : Nat) (M : fx_M) (i : Nat), i + k = l.length → M 133 12 = l.length → (∀ (j : Nat) (c : Int), l[j]? = some c → M 137 j = c) → (∀ (j : Nat) (c : Int), l[j]? = some c → j < i → M 153 (4 * r + j) = c) → (∀ M', M' 149 u = M 149 u + 1 → (∀ (j : Nat) (c : Int), l[j]? = some c → M' 153 (4 * r + j) = c) → (∀ b j, ¬ (b = 149 ∧ j = u) → ¬ (b = 153 ∧ 4 * r ≤ j ∧ j < 4 * r + 4) → M' b j = M b j) → Q none M') → wp kc (d + 1) 242 44 [some (jR 133), some (jI u), some (jI r), some (jI i)] [] M Q
  | 0, M, i, hi, hm, hl, hc, K => by
    refine s242_44 ⟨⟨⟨by omega, by omega⟩, by rw [hm]; exact ⟨by omega, by omega⟩⟩, fun _ => ⟨hu, hu, K _ (fx_up_self _ _ _ _) (fun j c hj => ?_) (fun b j h1 h2 => fx_up_ne (by omega))⟩, fun h => by omega⟩
    rw [fx_up_na (by decide)]
    have := (List.getElem?_eq_some_iff.mp hj).1
    exact hc j c hj (by omega)
  | k + 1, M, i, hi, hm, hl, hc, K => by
    have hlt : i < l.length := by omega
    have hg : l[i]? = some l[i] := List.getElem?_eq_getElem hlt
    have hv := hl i _ hg
    have e1 : ((i + 1 : Nat) : Int) = (i : Int) + 1 := by omega
    refine s242_44 ⟨⟨⟨by omega, by omega⟩, by rw [hm]; exact ⟨by omega, by omega⟩⟩, fun h => by omega, fun _ => ⟨⟨by omega, by omega⟩, ⟨by omega, by omega⟩, ?_⟩⟩
    rw [hv]
    have ih := mput_loop hu hr h4 k (fx_up M 153 (4 * r + i) l[i]) (i + 1) (by omega) (by rw [fx_up_na (by decide), hm]) (fun j c hj => by rw [fx_up_na (by decide)]; exact hl j c hj) (fun j c hj hji => by
      by_cases hx : j = i
      · subst hx
        rw [fx_up_self]
        rw [hg] at hj
        exact Option.some.inj hj
      · rw [fx_up_nk (by omega)]
        exact hc j c hj (by omega)) (fun M' a1 a2 a3 => K M' (by rw [a1, fx_up_na (by decide)]) a2 (fun b j h1 h2 => by rw [a3 b j h1 h2, fx_up_ne (by omega)]))
    rw [e1] at ih
    exact ih
/-- putRule: a rule more -/
theorem sp_putRule {l : List Int} {k n : Int} (hu : 0 ≤ u ∧ u < 10) (hz : mz M u Z) (ho : pz_ok Z) (hr : Z.2.2.2.1.length < 12) (h4 : l.length ≤ 4) (h10 : M 133 10 = piK.getD k.toNat 0) (h11 : M 133 11 = n) (h12 : M 133 12 = l.length) (hl : ∀ (i : Nat) (c : Int), l[i]? = some c → M 137 i = c) (K : ∀ M', mz M' u (z_add Z (k, n, l)) → ufr u M M' → Q none M') : wc kc (d + 1) 242 [jR 133, jI u] M Q := by
  obtain ⟨z0, z1, z2, z3, z4, z5⟩ := hz
  have hb : 0 ≤ 12 * u + M 149 u ∧ 12 * u + M 149 u < 120 := by omega
  refine s242 ⟨hu, hb, hb, hb, ?_⟩
  rw [h10, h11, h12]
  refine mput_loop hu (by omega) h4 l.length _ 0 (by omega) (by rw [fx_up_na (by decide), fx_up_na (by decide), fx_up_na (by decide), h12]) (fun j c hj => by rw [fx_up_na (by decide), fx_up_na (by decide), fx_up_na (by decide)]; exact hl j c hj) (fun j c hj hx => by omega) (fun M' m1 m2 m3 => K M' ?_ ?_)
  · have hlen : ((z_add Z (k, n, l)).2.2.2.1.length : Int) = Z.2.2.2.1.length + 1 := by
      show ((Z.2.2.2.1 ++ [(k, n, l)]).length : Int) = _
      rw [List.length_append]
      simp
    have f : ∀ (b : Nat) (j : Int), b ≠ 149 → b ≠ 150 → b ≠ 151 → b ≠ 152 → b ≠ 153 → M' b j = M b j := fun b j a1 a2 a3 a4 a5 => by
      rw [m3 b j (by omega) (by omega), fx_up_na a4, fx_up_na a3, fx_up_na a2]
    refine ⟨by rw [f _ _ (by decide) (by decide) (by decide) (by decide) (by decide)]; exact z0, by rw [f _ _ (by decide) (by decide) (by decide) (by decide) (by decide)]; exact z1, by rw [f _ _ (by decide) (by decide) (by decide) (by decide) (by decide)]; exact z2, by rw [m1, fx_up_na (by decide), fx_up_na (by decide), fx_up_na (by decide), z3, hlen], fun r R hR => ?_, fun c hc => by rw [f _ _ (by decide) (by decide) (by decide) (by decide) (by decide)]; exact z5 c hc⟩
    have hR : (Z.2.2.2.1 ++ [(k, n, l)])[r]? = some R := hR
    by_cases hrl : r < Z.2.2.2.1.length
    · rw [List.getElem?_append_left hrl] at hR
      obtain ⟨a1, a2, a3, a4⟩ := z4 r R hR
      have hne : 12 * u + (r : Int) ≠ 12 * u + M 149 u := by omega
      refine ⟨?_, ?_, ?_, fun i c hi => ?_⟩
      · rw [m3 _ _ (by omega) (by omega), fx_up_na (by decide), fx_up_na (by decide), fx_up_nk hne]
        exact a1
      · rw [m3 _ _ (by omega) (by omega), fx_up_na (by decide), fx_up_nk hne, fx_up_na (by decide)]
        exact a2
      · rw [m3 _ _ (by omega) (by omega), fx_up_nk hne, fx_up_na (by decide), fx_up_na (by decide)]
        exact a3
      · have hi4 : i < 4 := by
          have h1 := (List.getElem?_eq_some_iff.mp hi).1
          have h2 := (ho.2.2.2.2.2.2.2.1 R (List.mem_of_getElem? hR)).2.2.2.2.2.1
          omega
        rw [m3 _ _ (by omega) (by omega), fx_up_na (by decide), fx_up_na (by decide), fx_up_na (by decide)]
        exact a4 i c hi
    · have hrr : r = Z.2.2.2.1.length := by
        have := (List.getElem?_eq_some_iff.mp hR).1
        rw [List.length_append] at this
        simp at this
        omega
      rw [List.getElem?_append_right (by omega), hrr, Nat.sub_self] at hR
      have hR : (k, n, l) = R := by simpa using hR
      subst hR
      have hrM : 12 * u + (r : Int) = 12 * u + M 149 u := by omega
      rw [hrM]
      refine ⟨?_, ?_, ?_, fun i c hi => m2 i c hi⟩
      · rw [m3 _ _ (by omega) (by omega), fx_up_na (by decide), fx_up_na (by decide), fx_up_self]
      · rw [m3 _ _ (by omega) (by omega), fx_up_na (by decide), fx_up_self]
      · rw [m3 _ _ (by omega) (by omega), fx_up_self]
  · intro b j a1 a2 a3 a4
    rw [m3 b j (by omega) (by omega), fx_up_ne (by omega), fx_up_ne (by omega), fx_up_ne (by omega)]
theorem madd_in {l : List Int} {N : Int} (hmn : M 146 u * M 147 u = N) (hu : 0 ≤ u ∧ u < 10) (h4 : l.length ≤ 4) (hl : ∀ (i : Nat) (c : Int), l[i]? = some c → M 137 i = c) (hin : ∀ c ∈ l, 0 ≤ c ∧ c < 1000) {i : Nat} {x : Int} (hx : l[i]? = some x) (K1 : ¬ x ∈ l.take i → wp kc (d + 1) 240 12 [some (jR 133), some (jI u), some (jI ((i : Int) + 1)), none] [] M Q) (K0 : x ∈ l.take i → Q (some (jI 2)) M) : ∀ (k j : Nat), j + k = i → ¬ x ∈ l.take j → wp kc (d + 1) 240 38 [some (jR 133), some (jI u), some (jI i), some (jI j)] [] M Q
  | 0, j, hj, hn => by
    have hj : j = i := by omega
    subst hj
    have := (List.getElem?_eq_some_iff.mp hx).1
    exact s240_38 ⟨⟨⟨by omega, by omega⟩, ⟨by omega, by omega⟩⟩, fun _ => K1 hn, fun h => by omega⟩
  | k + 1, j, hj, hn => by
    have hil := (List.getElem?_eq_some_iff.mp hx).1
    have hjl : j < l.length := by omega
    have hg : l[j]? = some l[j] := List.getElem?_eq_getElem hjl
    have hvj := hl j _ hg
    have hvi := hl i _ hx
    have hbj := hin _ (List.getElem_mem hjl)
    have hbi := hin _ (List.mem_of_getElem? hx)
    have e1 : ((j + 1 : Nat) : Int) = (j : Int) + 1 := by omega
    refine s240_38 ⟨⟨⟨by omega, by omega⟩, ⟨by omega, by omega⟩⟩, fun h => by omega, fun _ => ⟨⟨by omega, by omega⟩, ⟨by omega, by omega⟩, ⟨by rw [hvi]; exact ⟨by omega, by omega⟩, by rw [hvj]; exact ⟨by omega, by omega⟩⟩, fun hne => ?_, fun he => K0 ?_⟩⟩
    · have ih := madd_in hmn hu h4 hl hin hx K1 K0 k (j + 1) (by omega) (by
        rw [take_snoc hg]
        intro hm
        rcases List.mem_append.mp hm with hm | hm
        · exact hn hm
        · have := List.mem_singleton.mp hm
          rw [hvi, hvj] at hne
          exact hne this)
      rw [e1] at ih
      exact ih
    · rw [hvi, hvj] at he
      rw [he]
      have : (l.take i)[j]? = some l[j] := by
        rw [List.getElem?_take_of_lt (by omega)]
        exact hg
      exact List.mem_of_getElem? this
theorem madd_loop {l : List Int} {N : Int} (hmn : M 146 u * M 147 u = N) (hN : 1 ≤ N ∧ N ≤ 9) (hu : 0 ≤ u ∧ u < 10) (h4 : l.length ≤ 4) (h12 : M 133 12 = l.length) (hl : ∀ (i : Nat) (c : Int), l[i]? = some c → M 137 i = c) (hin : ∀ c ∈ l, 0 ≤ c ∧ c < 1000) (K0 : ¬ ((∀ c ∈ l, 0 ≤ c ∧ c < N) ∧ l.Nodup) → Q (some (jI 2)) M) (K1 : (∀ c ∈ l, 0 ≤ c ∧ c < N) → l.Nodup → wp kc (d + 2) 240 12 [some (jR 133), some (jI u), some (jI l.length), none] [] M Q) : ∀ (k i : Nat), i + k = l.length → (∀ c ∈ l.take i, 0 ≤ c ∧ c < N) → (l.take i).Nodup → wp kc (d + 2) 240 12 [some (jR 133), some (jI u), some (jI i), none] [] M Q
  | 0, i, hi, h1, h2 => by
    have e : l.take i = l := List.take_of_length_le (by omega)
    rw [e] at h1 h2
    have hi : i = l.length := by omega
    rw [hi]
    exact K1 h1 h2
  | k + 1, i, hi, h1, h2 => by
    have hlt : i < l.length := by omega
    have hg : l[i]? = some l[i] := List.getElem?_eq_getElem hlt
    have hv := hl i _ hg
    have hmem : l[i] ∈ l := List.getElem_mem hlt
    have hb := hin _ hmem
    generalize l[i] = c at hg hv hmem hb
    have e1 : ((i + 1 : Nat) : Int) = (i : Int) + 1 := by omega
    refine s240_12 ⟨⟨⟨by omega, by omega⟩, by rw [h12]; exact ⟨by omega, by omega⟩⟩, fun h => by omega, fun _ => ⟨⟨by omega, by omega⟩, s241 ?_⟩⟩
    rw [hv, hmn]
    refine ⟨⟨by omega, by omega⟩, fun _ => hu, fun _ => hu, fun _ => ⟨by omega, by omega⟩, fun _ => ⟨by omega, by omega⟩, ⟨by (repeat' split) <;> omega, by (repeat' split) <;> omega⟩, ?_⟩
    by_cases hcn : c < N
    · rw [if_neg (by omega), if_pos hcn]
      refine s240_31 ⟨i01.2, fun _ => ?_, fun h => by omega⟩
      refine madd_in hmn hu h4 hl hin hg (fun hnm => ?_) (fun hm => K0 (fun hx => ?_)) i 0 (by omega) (by simp)
      · have ih := madd_loop hmn hN hu h4 h12 hl hin K0 K1 k (i + 1) (by omega) (by
          rw [take_snoc hg]
          intro x hx
          rcases List.mem_append.mp hx with hx | hx
          · exact h1 x hx
          · rw [List.mem_singleton.mp hx]
            omega) (by
          rw [take_snoc hg]
          exact List.nodup_append.mpr ⟨h2, by simp, fun x hx y hy => by
            rw [List.mem_singleton.mp hy]
            exact fun hxy => hnm (hxy ▸ hx)⟩)
        rw [e1] at ih
        exact ih
      · have hd := hx.2
        rw [← List.take_append_drop i l, List.nodup_append] at hd
        refine hd.2.2 c hm c ?_ rfl
        have : (l.drop i)[0]? = some c := by
          rw [List.getElem?_drop]
          exact hg
        exact List.mem_of_getElem? this
    · rw [if_neg (by omega), if_neg hcn]
      refine s240_31 ⟨i01.1, fun h => absurd rfl h, fun _ => K0 (fun hx => ?_)⟩
      have := hx.1 c hmem
      omega
/-- the reference's addRule: 2 no cell, 3 no number, 4 no room, 0 done -/
theorem sp_maddRule {l : List Int} {k n : Int} (hu : 0 ≤ u ∧ u < 10) (hz : mz M u Z) (ho : pz_ok Z) (hn : 0 ≤ n ∧ n < 1000) (h1 : 1 ≤ l.length) (hll : l.length ≤ 100000) (h10 : M 133 10 = piK.getD k.toNat 0) (h11 : M 133 11 = n) (h12 : M 133 12 = l.length) (hl : ∀ (i : Nat) (c : Int), l[i]? = some c → i < 4 → M 137 i = c) (hin : ∀ c ∈ l, 0 ≤ c ∧ c < 1000) (K0 : ¬ okc (Z.1 * Z.2.1) l → Q (some (jI 2)) M) (K1 : okc (Z.1 * Z.2.1) l → 99 < n → Q (some (jI 3)) M) (K2 : okc (Z.1 * Z.2.1) l → n ≤ 99 → 12 ≤ Z.2.2.2.1.length → Q (some (jI 4)) M) (K3 : okc (Z.1 * Z.2.1) l → n ≤ 99 → Z.2.2.2.1.length < 12 → ∀ M', mz M' u (z_add Z (k, n, l)) → ufr u M M' → Q (some (jI 0)) M') : wc kc (d + 2) 240 [jR 133, jI u] M Q := by
  have hn9 := pz_n ho
  have hz2 := hz
  obtain ⟨z0, z1, z2, z3, z4, z5⟩ := hz
  have o7 := ho.2.2.2.2.2.2.1
  unfold okc at *
  refine s240 ⟨by rw [h12]; exact ⟨by omega, by omega⟩, fun h4 => ?_, fun h4 => K0 (by omega)⟩
  have h4 : l.length ≤ 4 := by omega
  have hl' : ∀ (i : Nat) (c : Int), l[i]? = some c → M 137 i = c := fun i c hi => hl i c hi (by
    have := (List.getElem?_eq_some_iff.mp hi).1
    omega)
  refine madd_loop (N := Z.1 * Z.2.1) (by rw [z0, z1]) hn9 hu h4 h12 hl' hin (fun hx => K0 (fun hy => hx ⟨hy.2.2.1, hy.2.2.2⟩)) (fun a1 a2 => ?_) l.length 0 (by omega) (by simp) (by simp)
  have hok : 1 ≤ l.length ∧ l.length ≤ 4 ∧ (∀ c ∈ l, 0 ≤ c ∧ c < Z.1 * Z.2.1) ∧ l.Nodup := ⟨h1, h4, a1, a2⟩
  refine s240_12 ⟨⟨⟨by omega, by omega⟩, by rw [h12]; exact ⟨by omega, by omega⟩⟩, fun _ => ⟨by rw [h11]; exact ⟨by omega, by omega⟩, fun h99 => ⟨hu, by rw [z3]; exact ⟨by omega, by omega⟩, fun hne => ?_, fun he => K2 hok (by omega) (by omega)⟩, fun h99 => K1 hok (by omega)⟩, fun h => by omega⟩
  exact sp_putRule (l := l) (k := k) (n := n) hu hz2 ho (by omega) h4 h10 h11 h12 hl' (fun M' m1 m2 => s240_101 (K3 hok (by omega) (by omega) M' m1 m2))
end PZM
