/-! PUZZLES: addEach of the reference. -/
def ufr2 (u : Int) (M M' : fx_M) : Prop := ∀ b j, ¬ (b = 133 ∧ j = 12) → b ≠ 137 → ¬ ((b = 146 ∨ b = 147 ∨ b = 148 ∨ b = 149) ∧ j = u) → ¬ ((b = 150 ∨ b = 151 ∨ b = 152) ∧ 12 * u ≤ j ∧ j < 12 * u + 12) → ¬ (b = 153 ∧ 48 * u ≤ j ∧ j < 48 * u + 48) → ¬ (b = 154 ∧ 9 * u ≤ j ∧ j < 9 * u + 9) → M' b j = M b j
theorem ufr2_rf (u : Int) (M : fx_M) : ufr2 u M M := fun _ _ _ _ _ _ _ _ => rfl
theorem ufr2_tr {u : Int} {M N P : fx_M} (h1 : ufr2 u M N) (h2 : ufr2 u N P) : ufr2 u M P := fun b j a1 a2 a3 a4 a5 a6 => by rw [h2 b j a1 a2 a3 a4 a5 a6, h1 b j a1 a2 a3 a4 a5 a6]
theorem ufr_ufr2 {u : Int} {M N : fx_M} (h : ufr u M N) : ufr2 u M N := fun b j _ _ a3 a4 a5 a6 => h b j a3 a4 a5 a6
/-- row or column j, the reference's way -/
def mrow (s w h : Int) (j : Int) : List Int := if s = 0 then (List.range w.toNat).map (fun (i : Nat) => w * j + (i : Int)) else (List.range h.toNat).map (fun (i : Nat) => w * (i : Int) + j)
def mL (s w h : Int) : Nat → List (List Int)
  | 0 => []
  | j + 1 => mL s w h j ++ [mrow s w h j]
def mrow_chk (s w h j : Int) : Bool := decide ((mrow s w h j).length ≤ 3) && decide (1 ≤ (mrow s w h j).length) && (mrow s w h j).all (fun x => decide (0 ≤ x ∧ x < w * h)) && decide ((mrow s w h j).Nodup)
theorem mrow_all : ∀ (s : Fin 2) (w h : Fin 3) (j : Fin 3), ((j : Nat) : Int) < eMany ((s : Nat) : Int) (((w : Nat) : Int) + 1) (((h : Nat) : Int) + 1) → mrow_chk ((s : Nat) : Int) (((w : Nat) : Int) + 1) (((h : Nat) : Int) + 1) ((j : Nat) : Int) = true := by decide +kernel
theorem mL_all : ∀ (s : Fin 2) (w h : Fin 3), mL ((s : Nat) : Int) (((w : Nat) : Int) + 1) (((h : Nat) : Int) + 1) (eMany ((s : Nat) : Int) (((w : Nat) : Int) + 1) (((h : Nat) : Int) + 1)).toNat = eL ((s : Nat) : Int) (((w : Nat) : Int) + 1) (((h : Nat) : Int) + 1) ((((w : Nat) : Int) + 1) * (((h : Nat) : Int) + 1)).toNat := by decide +kernel
theorem pair_all : ∀ (w h : Fin 3) (c : Fin 9), ((c : Nat) : Int) < (((w : Nat) : Int) + 1) * (((h : Nat) : Int) + 1) → (((c : Nat) : Int) / (((w : Nat) : Int) + 1) + 1 < (((h : Nat) : Int) + 1) ↔ ((c : Nat) : Int) + (((w : Nat) : Int) + 1) < (((w : Nat) : Int) + 1) * (((h : Nat) : Int) + 1)) := by decide +kernel
theorem mL_eq {s w h : Int} (hs : s = 0 ∨ s = 1) (hw : 1 ≤ w ∧ w ≤ 3) (hh : 1 ≤ h ∧ h ≤ 3) : mL s w h (eMany s w h).toNat = eL s w h (w * h).toNat := by
  have := mL_all ⟨s.toNat, by omega⟩ ⟨(w - 1).toNat, by omega⟩ ⟨(h - 1).toNat, by omega⟩
  simp only at this
  rwa [show ((s.toNat : Nat) : Int) = s by omega, show (((w - 1).toNat : Nat) : Int) + 1 = w by omega, show (((h - 1).toNat : Nat) : Int) + 1 = h by omega] at this
theorem pair_eq {w h c : Int} (hw : 1 ≤ w ∧ w ≤ 3) (hh : 1 ≤ h ∧ h ≤ 3) (hc : 0 ≤ c ∧ c < w * h) : c / w + 1 < h ↔ c + w < w * h := by
  have h9 := mul_le9 hw.1 hw.2 hh.1 hh.2
  have := pair_all ⟨(w - 1).toNat, by omega⟩ ⟨(h - 1).toNat, by omega⟩ ⟨c.toNat, by omega⟩
  simp only at this
  rw [show (((w - 1).toNat : Nat) : Int) + 1 = w by omega, show (((h - 1).toNat : Nat) : Int) + 1 = h by omega, show ((c.toNat : Nat) : Int) = c by omega] at this
  exact this hc.2
theorem mrow_ok {s w h j : Int} (hs : s = 0 ∨ s = 1) (hw : 1 ≤ w ∧ w ≤ 3) (hh : 1 ≤ h ∧ h ≤ 3) (hj : 0 ≤ j ∧ j < eMany s w h) : (mrow s w h j).length ≤ 3 ∧ 1 ≤ (mrow s w h j).length ∧ (∀ x ∈ mrow s w h j, 0 ≤ x ∧ x < w * h) ∧ (mrow s w h j).Nodup := by
  have hm : eMany s w h ≤ 3 := by
    unfold eMany
    rcases hs with hs | hs <;> rw [hs] <;> simp <;> omega
  have := mrow_all ⟨s.toNat, by omega⟩ ⟨(w - 1).toNat, by omega⟩ ⟨(h - 1).toNat, by omega⟩ ⟨j.toNat, by omega⟩
  simp only at this
  rw [show ((s.toNat : Nat) : Int) = s by omega, show (((w - 1).toNat : Nat) : Int) + 1 = w by omega, show (((h - 1).toNat : Nat) : Int) + 1 = h by omega, show ((j.toNat : Nat) : Int) = j by omega] at this
  have := this hj.2
  unfold mrow_chk at this
  rw [Bool.and_eq_true, Bool.and_eq_true, Bool.and_eq_true, List.all_eq_true, decide_eq_true_eq, decide_eq_true_eq, decide_eq_true_eq] at this
  exact ⟨this.1.1.1, this.1.1.2, fun x hx => by simpa using this.1.2 x hx, this.2⟩
theorem mrow_get {s w h j : Int} {i : Nat} {x : Int} (hx : (mrow s w h j)[i]? = some x) : x = if s = 0 then w * j + (i : Int) else w * (i : Int) + j := by
  unfold mrow at hx
  split at hx
  · next hs =>
    rw [if_pos hs]
    rw [List.getElem?_map] at hx
    have hlt : i < (List.range w.toNat).length := by
      cases hg : (List.range w.toNat)[i]? with
      | none => rw [hg] at hx; cases hx
      | some y => exact (List.getElem?_eq_some_iff.mp hg).1
    rw [List.getElem?_eq_getElem hlt, List.getElem_range] at hx
    simpa using hx.symm
  · next hs =>
    rw [if_neg hs]
    rw [List.getElem?_map] at hx
    have hlt : i < (List.range h.toNat).length := by
      cases hg : (List.range h.toNat)[i]? with
      | none => rw [hg] at hx; cases hx
      | some y => exact (List.getElem?_eq_some_iff.mp hg).1
    rw [List.getElem?_eq_getElem hlt, List.getElem_range] at hx
    simpa using hx.symm
theorem mrow_len {s w h j : Int} : (mrow s w h j).length = if s = 0 then w.toNat else h.toNat := by
  unfold mrow
  split <;> simp
section PZH
variable {kc : List va_E} {d : Nat} {Q : Option fx_V → fx_M → Prop} {Z : PZ} {u : Int}
theorem mz_fr {M M' : fx_M} (hz : mz M u Z) (h4 : ∀ R ∈ Z.2.2.2.1, R.2.2.length ≤ 4) (hf : ∀ b j, b ≠ 133 → b ≠ 137 → M' b j = M b j) : mz M' u Z := by
  obtain ⟨z0, z1, z2, z3, z4, z5⟩ := hz
  refine ⟨by rw [hf _ _ (by decide) (by decide)]; exact z0, by rw [hf _ _ (by decide) (by decide)]; exact z1, by rw [hf _ _ (by decide) (by decide)]; exact z2, by rw [hf _ _ (by decide) (by decide)]; exact z3, fun r R hR => ?_, fun c hc => by rw [hf _ _ (by decide) (by decide)]; exact z5 c hc⟩
  obtain ⟨a1, a2, a3, a4⟩ := z4 r R hR
  exact ⟨by rw [hf _ _ (by decide) (by decide)]; exact a1, by rw [hf _ _ (by decide) (by decide)]; exact a2, by rw [hf _ _ (by decide) (by decide)]; exact a3, fun i c hi => by rw [hf _ _ (by decide) (by decide)]; exact a4 i c hi⟩
theorem pz_4 (ho : pz_ok Z) : ∀ R ∈ Z.2.2.2.1, R.2.2.length ≤ 4 := fun R hR => (ho.2.2.2.2.2.2.2.1 R hR).2.2.2.2.2.1
/-- putRule of a list that stands in ruleCell: one list more -/
theorem mz_more {M : fx_M} {l : List Int} {k n : Int} {ls : List (List Int)} (hu : 0 ≤ u ∧ u < 10) (hz : mz M u (z_adds Z k n ls)) (ho : pz_ok (z_adds Z k n ls)) (hr : Z.2.2.2.1.length + ls.length < 12) (hk : 0 ≤ k ∧ k < 8) (hn : 0 ≤ n ∧ n ≤ 99) (h1 : 1 ≤ l.length) (h4 : l.length ≤ 4) (hin : ∀ x ∈ l, 0 ≤ x ∧ x < Z.1 * Z.2.1) (hnd : l.Nodup) (h10 : M 133 10 = piK.getD k.toNat 0) (h11 : M 133 11 = n) (h12 : M 133 12 = l.length) (hl : ∀ (i : Nat) (c : Int), l[i]? = some c → M 137 i = c) (K : ∀ M', mz M' u (z_adds Z k n (ls ++ [l])) → pz_ok (z_adds Z k n (ls ++ [l])) → ufr u M M' → Q none M') : wc kc (d + 1) 242 [jR 133, jI u] M Q := by
  have hlen : (z_adds Z k n ls).2.2.2.1.length = Z.2.2.2.1.length + ls.length := by
    show (Z.2.2.2.1 ++ ls.map _).length = _
    rw [List.length_append, List.length_map]
  refine sp_putRule (l := l) (k := k) (n := n) hu hz ho (by omega) h4 h10 h11 h12 hl (fun M' m1 m2 => K M' ?_ ?_ m2)
  · rw [← z_adds_snoc]
    exact m1
  · rw [← z_adds_snoc]
    exact z_add_ok ho (by omega) ⟨hk.1, hk.2, hn.1, hn.2, h1, h4, hin, hnd⟩
theorem mpair {M : fx_M} {c x k n : Int} {ls : List (List Int)} (hu : 0 ≤ u ∧ u < 10) (hz : mz M u (z_adds Z k n ls)) (ho : pz_ok (z_adds Z k n ls)) (hr : Z.2.2.2.1.length + ls.length < 12) (hk : 0 ≤ k ∧ k < 8) (hn : 0 ≤ n ∧ n ≤ 99) (hc : 0 ≤ c ∧ c < x ∧ x < Z.1 * Z.2.1) (h10 : M 133 10 = piK.getD k.toNat 0) (h11 : M 133 11 = n) (K : ∀ M', mz M' u (z_adds Z k n (ls ++ [[c, x]])) → pz_ok (z_adds Z k n (ls ++ [[c, x]])) → ufr2 u M M' → Q none M') : wc kc (d + 2) 244 [jR 133, jI u, jI c, jI x] M Q := by
  refine s244 (mz_more (l := [c, x]) (ls := ls) (k := k) (n := n) (Z := Z) hu (mz_fr hz (pz_4 ho) (fun b j b1 b2 => by rw [fx_up_na b2, fx_up_na b2, fx_up_na b1])) ho hr hk hn (by simp) (by simp) (fun y hy => ?_) ?_ (by rw [fx_up_na (by decide), fx_up_na (by decide), fx_up_nk (by decide), h10]) (by rw [fx_up_na (by decide), fx_up_na (by decide), fx_up_nk (by decide), h11]) (by rw [fx_up_na (by decide), fx_up_na (by decide), fx_up_self]; rfl) (fun i y hi => ?_) (fun M' m1 m2 m3 => s244_24 (K M' m1 m2 (fun b j a1 a2 a3 a4 a5 a6 => by rw [m3 b j a3 a4 a5 a6, fx_up_na a2, fx_up_na a2, fx_up_ne a1]))))
  · simp at hy
    omega
  · simp
    omega
  · match i, hi with
    | 0, hi =>
      have : c = y := by simpa using hi
      subst this
      show _ = _
      rw [fx_up_nk (by decide)]
      exact fx_up_self _ _ _ _
    | 1, hi =>
      have : x = y := by simpa using hi
      subst this
      exact fx_up_self _ _ _ _
    | i + 2, hi => simp at hi
theorem mpairs_loop {k n : Int} (hu : 0 ≤ u ∧ u < 10) (ho : pz_ok Z) (hk : 0 ≤ k ∧ k < 8) (hn : 0 ≤ n ∧ n ≤ 99) (hroom : Z.2.2.2.1.length + (eL 2 Z.1 Z.2.1 (Z.1 * Z.2.1).toNat).length ≤ 12) : ∀ (t c : Nat) (M : fx_M), (c : Int) + t = Z.1 * Z.2.1 → mz M u (z_adds Z k n (eL 2 Z.1 Z.2.1 c)) → pz_ok (z_adds Z k n (eL 2 Z.1 Z.2.1 c)) → M 133 10 = piK.getD k.toNat 0 → M 133 11 = n → (∀ M', mz M' u (z_adds Z k n (eL 2 Z.1 Z.2.1 (Z.1 * Z.2.1).toNat)) → pz_ok (z_adds Z k n (eL 2 Z.1 Z.2.1 (Z.1 * Z.2.1).toNat)) → ufr2 u M M' → Q (some (jI 0)) M') → wp kc (d + 3) 243 92 [some (jR 133), some (jI u), some (jI Z.1), some (jI Z.2.1), none, some (jI c), none] [] M Q
  | 0, c, M, hc, hz, hoz, h10, h11, K => by
    have h9 := pz_n ho
    have hcN : (Z.1 * Z.2.1).toNat = c := by omega
    rw [hcN] at K
    exact s243_92 ⟨⟨⟨by omega, by omega⟩, ⟨by omega, by omega⟩⟩, fun _ => K M hz hoz (ufr2_rf u M), fun h => by omega⟩
  | t + 1, c, M, hc, hz, hoz, h10, h11, K => by
    have h9 := pz_n ho
    have w3 : 1 ≤ Z.1 ∧ Z.1 ≤ 3 := ⟨ho.1, ho.2.1⟩
    have h3 : 1 ≤ Z.2.1 ∧ Z.2.1 ≤ 3 := ⟨ho.2.2.1, ho.2.2.2.1⟩
    have e1 : ((c + 1 : Nat) : Int) = (c : Int) + 1 := by omega
    have hm : 0 ≤ (c : Int) % Z.1 ∧ (c : Int) % Z.1 < Z.1 := ⟨Int.emod_nonneg _ (by omega), Int.emod_lt_of_pos _ (by omega)⟩
    have hmono : (eL 2 Z.1 Z.2.1 (c + 1)).length ≤ (eL 2 Z.1 Z.2.1 (Z.1 * Z.2.1).toNat).length := eL_mono (by omega)
    have hlen : (eL 2 Z.1 Z.2.1 (c + 1)).length = (eL 2 Z.1 Z.2.1 c).length + ((neL (eaL 2 Z.1 Z.2.1 c 0)).length + (neL (eaL 2 Z.1 Z.2.1 c 1)).length) := by
      rw [eL, List.length_append, List.length_append]
    have heL : eL 2 Z.1 Z.2.1 (c + 1) = eL 2 Z.1 Z.2.1 c ++ (neL (eaL 2 Z.1 Z.2.1 c 0) ++ neL (eaL 2 Z.1 Z.2.1 c 1)) := rfl
    have l0 := neL_len (eaL 2 Z.1 Z.2.1 c 0)
    have l1 := neL_len (eaL 2 Z.1 Z.2.1 c 1)
    have a0 : eaL 2 Z.1 Z.2.1 c 0 = if (c : Int) % Z.1 + 1 < Z.1 then [(c : Int), (c : Int) + 1] else [] := rfl
    have a1 : eaL 2 Z.1 Z.2.1 c 1 = if (c : Int) / Z.1 + 1 < Z.2.1 then [(c : Int), (c : Int) + Z.1] else [] := rfl
    have hpe := pair_eq (c := (c : Int)) w3 h3 ⟨by omega, by omega⟩
    have hdm : (c : Int) % Z.1 + Z.1 * ((c : Int) / Z.1) = c := Int.emod_add_mul_ediv _ _
    have down : ∀ (N : fx_M) (ls : List (List Int)), ls.length + (neL (eaL 2 Z.1 Z.2.1 c 1)).length = (eL 2 Z.1 Z.2.1 (c + 1)).length → ls ++ neL (eaL 2 Z.1 Z.2.1 c 1) = eL 2 Z.1 Z.2.1 (c + 1) → mz N u (z_adds Z k n ls) → pz_ok (z_adds Z k n ls) → N 133 10 = piK.getD k.toNat 0 → N 133 11 = n → ufr2 u M N → ((fx_in32 ((c : Int) + Z.1)) ∧ (fx_in32 (Z.1 * Z.2.1))) ∧ (Z.1 * Z.2.1 ≤ (c : Int) + Z.1 → wp kc (d + 3) 243 92 [some (jR 133), some (jI u), some (jI Z.1), some (jI Z.2.1), none, some (jI ((c : Int) + 1)), none] [] N Q) ∧ ((c : Int) + Z.1 < Z.1 * Z.2.1 → wc kc (d + 2) 244 [jR 133, jI u, jI c, jI ((c : Int) + Z.1)] N (fun v M1 => wp kc (d + 3) 243 142 [some (jR 133), some (jI u), some (jI Z.1), some (jI Z.2.1), none, some (jI c), none] (v.toList ++ []) M1 Q)) := by
      intro N ls hll hle hzN hoN n10 n11 hfN
      have go : ∀ (P : fx_M), mz P u (z_adds Z k n (eL 2 Z.1 Z.2.1 (c + 1))) → pz_ok (z_adds Z k n (eL 2 Z.1 Z.2.1 (c + 1))) → P 133 10 = piK.getD k.toNat 0 → P 133 11 = n → ufr2 u M P → wp kc (d + 3) 243 92 [some (jR 133), some (jI u), some (jI Z.1), some (jI Z.2.1), none, some (jI ((c : Int) + 1)), none] [] P Q := by
        intro P hzP hoP p10 p11 hfP
        have ih := mpairs_loop hu ho hk hn hroom t (c + 1) P (by omega) hzP hoP p10 p11 (fun M' b1 b2 b3 => K M' b1 b2 (ufr2_tr hfP b3))
        rw [e1] at ih
        exact ih
      refine ⟨⟨⟨by omega, by omega⟩, ⟨by omega, by omega⟩⟩, fun hx => ?_, fun hx => ?_⟩
      · have hne : neL (eaL 2 Z.1 Z.2.1 c 1) = [] := by
          rw [a1, if_neg (fun hy => by have := hpe.mp hy; omega)]
          rfl
        rw [hne, List.append_nil] at hle
        rw [← hle] at go
        exact go N hzN hoN n10 n11 hfN
      · have hne : neL (eaL 2 Z.1 Z.2.1 c 1) = [[(c : Int), (c : Int) + Z.1]] := by
          rw [a1, if_pos (hpe.mpr hx)]
          rfl
        rw [hne] at hle hll
        simp only [List.length_cons, List.length_nil] at hll
        refine mpair (ls := ls) (k := k) (n := n) (Z := Z) hu hzN hoN (by omega) hk hn ⟨by omega, by omega, hx⟩ n10 n11 (fun M' b1 b2 b3 => s243_142 ?_)
        rw [hle] at b1 b2
        exact go M' b1 b2 (by rw [b3 133 10 (by omega) (by decide) (by omega) (by omega) (by omega) (by omega), n10]) (by rw [b3 133 11 (by omega) (by decide) (by omega) (by omega) (by omega) (by omega), n11]) (ufr2_tr hfN b3)
    refine s243_92 ⟨⟨⟨by omega, by omega⟩, ⟨by omega, by omega⟩⟩, fun h => by omega, fun _ => ⟨⟨⟨by omega, by omega⟩, by omega, by omega⟩, ⟨⟨by omega, by omega⟩, ⟨by omega, by omega⟩⟩, fun hx => ?_, fun hx => ?_⟩⟩
    · have hne : neL (eaL 2 Z.1 Z.2.1 c 0) = [] := by
        rw [a0, if_neg (by omega)]
        rfl
      refine down M (eL 2 Z.1 Z.2.1 c) ?_ ?_ hz hoz h10 h11 (ufr2_rf u M)
      · rw [hlen, hne]
        simp
      · rw [heL, hne]
        rfl
    · have hne : neL (eaL 2 Z.1 Z.2.1 c 0) = [[(c : Int), (c : Int) + 1]] := by
        rw [a0, if_pos hx]
        rfl
      have hc1 : (c : Int) + 1 < Z.1 * Z.2.1 := by
        have hd0 : (c : Int) / Z.1 < Z.2.1 := Int.ediv_lt_of_lt_mul (by omega) (by rw [Int.mul_comm]; omega)
        have h2 : Z.1 * ((c : Int) / Z.1) ≤ Z.1 * (Z.2.1 - 1) := Int.mul_le_mul_of_nonneg_left (by omega) (by omega)
        have h4 : Z.1 * (Z.2.1 - 1) = Z.1 * Z.2.1 - Z.1 := by rw [Int.mul_sub, Int.mul_one]
        omega
      have hll : (eL 2 Z.1 Z.2.1 c).length + 1 ≤ (eL 2 Z.1 Z.2.1 (c + 1)).length := by
        rw [hlen, hne]
        simp
      refine mpair (ls := eL 2 Z.1 Z.2.1 c) (k := k) (n := n) (Z := Z) hu hz hoz (by omega) hk hn ⟨by omega, by omega, hc1⟩ h10 h11 (fun M' b1 b2 b3 => s243_121 (down M' _ ?_ ?_ b1 b2 (by rw [b3 133 10 (by omega) (by decide) (by omega) (by omega) (by omega) (by omega), h10]) (by rw [b3 133 11 (by omega) (by decide) (by omega) (by omega) (by omega) (by omega), h11]) b3))
      · rw [hlen, hne, List.length_append]
        simp
        omega
      · rw [heL, hne, List.append_assoc]
end PZH
