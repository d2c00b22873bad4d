/-! The reference's colours, one behind the other. -/
/-- of colours below m alone -/
def hiP (m : Int) (P : List Int → Bool) : Prop := ∀ (p : List Int) (y : Int) (k : Nat), m ≤ y → sbx P (p ++ [y]) k = []
def lowP (m : Int) (x : List Int) : Bool := x.all fun y => decide (0 ≤ y ∧ y < m)
theorem hiP_bar {Z : PZ} {m : Int} : hiP m (barP Z m) := fun _ _ _ h => barP_hi h
theorem hiP_low {m : Int} : hiP m (lowP m) := fun p y k h => sbx_nil (fun t _ => by
  unfold lowP
  rw [List.all_eq_false]
  exact ⟨y, by simp, by simp; omega⟩)
theorem rmx_cg {P : List Int → Bool} {n : Nat} {a b : Nat → Int} : ∀ {k : Nat}, (∀ i, i < k → a i = b i) → rmx P n a k = rmx P n b k
  | 0, _ => rfl
  | k + 1, h => by
    have e : (List.range k).map a = (List.range k).map b := List.map_congr_left (fun i hi => h i (by have := List.mem_range.mp hi; omega))
    rw [rmx, rmx, e, h k (by omega), rmx_cg (fun i hi => h i (by omega))]
theorem rmx_zr {P : List Int → Bool} {n : Nat} {a : Nat → Int} : ∀ (k j : Nat), j + k = n → (∀ i, j ≤ i → i < n → a i = 0) → sbx P ((List.range j).map a) k ++ rmx P n a j = (if P ((List.range n).map a) then [(List.range n).map a] else []) ++ rmx P n a n
  | 0, j, hj, _ => by
    rw [show j = n by omega, sbx_zero]
  | k + 1, j, hj, h => by
    rw [← rmx_zr k (j + 1) (by omega) (fun i h1 h2 => h i (by omega) h2), sbx_succ, sbA_succ, rmx, rng_succ, h j (Nat.le_refl _) (by omega), show n - j - 1 = k by omega]
    simp
section MBA
variable {kc : List va_E} {d : Nat} {Q : Option fx_V → fx_M → Prop} {Z : PZ}
theorem nc_loop {n : Nat} (hn : n ≤ 9) {m : Int} (hm : 2 ≤ m ∧ m ≤ 3) : ∀ (j : Nat) (a : Nat → Int) (M : fx_M), j ≤ n → (∀ i, i < n → M 173 (i : Int) = a i) → (∀ i, i < n → 0 ≤ a i ∧ a i < m) → (∀ i, j ≤ i → i < n → a i = 0) → ((∀ P, hiP m P → rmx P n a j = []) → ∀ M', (∀ b k, b ≠ 173 → M' b k = M b k) → Q (some (jI 0)) M') → (∀ (a' : Nat → Int) (M' : fx_M), (∀ b k, b ≠ 173 → M' b k = M b k) → (∀ i, i < n → M' 173 (i : Int) = a' i) → (∀ i, i < n → 0 ≤ a' i ∧ a' i < m) → (∀ P, hiP m P → rmx P n a j = (if P ((List.range n).map a') then [(List.range n).map a'] else []) ++ rmx P n a' n) → Q (some (jI 1)) M') → wp kc (d + 1) 419 7 [some (jR 133), some (jI m), some (jI ((j : Int) - 1))] [] M Q
  | 0, a, M, hj, h173, hb, hz, K0, K1 => by
    refine s419_7 ⟨⟨by omega, by omega⟩, fun _ => ⟨⟨by omega, by omega⟩, fun _ => ?_, fun h => by omega⟩, fun h => by omega⟩
    rw [if_pos (by omega)]
    exact ⟨⟨by omega, by omega⟩, ⟨by omega, by omega⟩, K0 (fun P _ => rfl) M (fun _ _ _ => rfl)⟩
  | j + 1, a, M, hj, h173, hb, hz, K0, K1 => by
    have hbj := hb j (by omega)
    have ej : (((j + 1 : Nat) : Int) - 1) = (j : Int) := by omega
    rw [ej]
    refine s419_7 ?_
    rw [h173 j (by omega), if_neg (show ¬ (j : Int) < 0 by omega)]
    refine ⟨⟨by omega, by omega⟩, fun h => by omega, fun _ => ⟨⟨by omega, by omega⟩, ⟨⟨by omega, by omega⟩, ⟨by omega, by omega⟩⟩, fun hne => ⟨⟨by omega, by omega⟩, fun h => by omega, fun _ => ⟨⟨by omega, by omega⟩, ⟨by omega, by omega⟩, ⟨by omega, by omega⟩, ⟨by omega, by omega⟩, ?_⟩⟩, fun he => ⟨⟨by omega, by omega⟩, ?_⟩⟩⟩
    · refine K1 (fun i => if i = j then a j + 1 else a i) _ (fun b k hb => fx_up_na hb) (fun i hi => ?_) (fun i hi => ?_) (fun P hP => ?_)
      · by_cases e : i = j
        · subst e
          rw [fx_up_self]
          simp
        · rw [fx_up_nk (by omega), h173 i hi]
          simp [e]
      · have := hb i hi
        try simp only
        split <;> omega
      · rw [← rmx_zr (a := fun i => if i = j then a j + 1 else a i) (P := P) (n := n) (n - (j + 1)) (j + 1) (by omega) (fun i h1 h2 => by
          try simp only
          rw [if_neg (by omega)]
          exact hz i h1 h2), rmx, rmx, rng_succ]
        have e1 : (List.range j).map (fun i => if i = j then a j + 1 else a i) = (List.range j).map a := List.map_congr_left (fun i hi => by
          have := List.mem_range.mp hi
          rw [if_neg (by omega)])
        have e2 : rmx P n (fun i => if i = j then a j + 1 else a i) j = rmx P n a j := rmx_cg (fun i hi => by rw [if_neg (by omega)])
        rw [e1, e2, if_pos rfl, show (3 - a j).toNat = (3 - (a j + 1)).toNat + 1 by omega, sbA_succ, show (3 : Int) - ((3 - (a j + 1)).toNat : Nat) = a j + 1 by omega, show n - (j + 1) = n - j - 1 by omega, List.append_assoc]
    · have nx := nc_loop hn hm j (fun i => if i = j then 0 else a i) (fx_up M 173 (j : Int) 0) (by omega) (fun i hi => by
        by_cases e : i = j
        · subst e
          rw [fx_up_self]
          simp
        · rw [fx_up_nk (by omega), h173 i hi]
          simp [e]) (fun i hi => by
        have := hb i hi
        try simp only
        split <;> omega) (fun i h1 h2 => by
        try simp only
        by_cases e : i = j
        · rw [if_pos e]
        · rw [if_neg e]
          exact hz i (by omega) h2)
      have er : ∀ P, hiP m P → rmx P n a (j + 1) = rmx P n (fun i => if i = j then 0 else a i) j := fun P hP => by
        have e2 : rmx P n (fun i => if i = j then 0 else a i) j = rmx P n a j := rmx_cg (fun i hi => by rw [if_neg (by omega)])
        rw [e2, rmx, sbA_nil (fun y hy => hP _ _ _ (by have := (mem_up4 (by omega)).mp hy; omega)), List.nil_append]
      have nx2 := nx (fun h M' f => K0 (fun P hP => by rw [er P hP]; exact h P hP) M' (fun b k hb => by rw [f b k hb, fx_up_na hb])) (fun a' M' f g1 g2 g3 => K1 a' M' (fun b k hb => by rw [f b k hb, fx_up_na hb]) g1 g2 (fun P hP => by rw [er P hP]; exact g3 P hP))
      rw [show (j : Int) - 1 = (j : Int) + (-1) by omega] at nx2
      exact nx2
theorem sp_nextColours (ho : pz_ok Z) {m : Int} (hm : 2 ≤ m ∧ m ≤ 3) {a : Nat → Int} {M : fx_M} (hz : mz M 0 Z) (h173 : ∀ i, i < (Z.1 * Z.2.1).toNat → M 173 (i : Int) = a i) (hb : ∀ i, i < (Z.1 * Z.2.1).toNat → 0 ≤ a i ∧ a i < m) (K0 : (∀ P, hiP m P → rmx P (Z.1 * Z.2.1).toNat a (Z.1 * Z.2.1).toNat = []) → ∀ M', (∀ b k, b ≠ 173 → M' b k = M b k) → Q (some (jI 0)) M') (K1 : ∀ (a' : Nat → Int) (M' : fx_M), (∀ b k, b ≠ 173 → M' b k = M b k) → (∀ i, i < (Z.1 * Z.2.1).toNat → M' 173 (i : Int) = a' i) → (∀ i, i < (Z.1 * Z.2.1).toNat → 0 ≤ a' i ∧ a' i < m) → (∀ P, hiP m P → rmx P (Z.1 * Z.2.1).toNat a (Z.1 * Z.2.1).toNat = (if P ((List.range (Z.1 * Z.2.1).toNat).map a') then [(List.range (Z.1 * Z.2.1).toNat).map a'] else []) ++ rmx P (Z.1 * Z.2.1).toNat a' (Z.1 * Z.2.1).toNat) → Q (some (jI 1)) M') : wc kc (d + 2) 419 [jR 133, jI m] M Q := by
  have h9 := pz_n ho
  refine s419 (s248 (s419_4 ?_))
  rw [hz.1, hz.2.1]
  have := nc_loop (kc := kc) (d := d + 1) (Q := Q) (n := (Z.1 * Z.2.1).toNat) (by omega) hm (Z.1 * Z.2.1).toNat a M (Nat.le_refl _) h173 hb (fun i h1 h2 => by omega) K0 K1
  rw [show (((Z.1 * Z.2.1).toNat : Nat) : Int) = Z.1 * Z.2.1 by omega] at this
  exact this
theorem br_sum (ho : pz_ok Z) {m : Int} (hm : 2 ≤ m ∧ m ≤ 3) {p : List Int} (hl : (p.length : Int) = Z.1 * Z.2.1) (hp : ∀ i : Nat, i < p.length → 0 ≤ p.getD i 0 ∧ p.getD i 0 < m) {M : fx_M} (hz : mz M 0 Z) (h173 : ∀ i : Nat, i < p.length → M 173 (i : Int) = p.getD i 0) {r : Nat} {R : PR} (hR : Z.2.2.2.1[r]? = some R) (K0 : barS p R % m ≠ 0 → Q (some (jI 0)) M) (K1 : barS p R % m = 0 → wp kc (d + 1) 420 2 [some (jR 133), some (jI m), some (jI ((r : Int) + 1)), none, none] [] M Q) : ∀ (t i : Nat) (s : Int), i + t = R.2.2.length → s = ((R.2.2.take i).map fun c => p.getD c.toNat 0).sum → wp kc (d + 1) 420 17 [some (jR 133), some (jI m), some (jI r), some (jI s), some (jI i)] [] M Q := by
  have h9' := pz_n ho
  have h12 := ho.2.2.2.2.2.2.1
  obtain ⟨hrl, e⟩ := List.getElem?_eq_some_iff.mp hR
  have hRm : R ∈ Z.2.2.2.1 := e ▸ List.getElem_mem hrl
  have h9 := pr_c9 ho hRm
  have hok := ho.2.2.2.2.2.2.2.1 R hRm
  have h4l := hok.2.2.2.2.2.1
  have z3 := (hz.2.2.2.2.1 r R hR).2.2.1
  rw [Int.mul_zero, Int.zero_add] at z3
  intro t
  induction t with
  | zero =>
    intro i s hi hs
    have hb := barS_b (R := R) hp hm hok.2.2.2.2.2.1
    have es : s = barS p R := by rw [hs, List.take_of_length_le (by omega)]; rfl
    rw [es]
    have h1 := Int.emod_nonneg (barS p R) (show m ≠ 0 by omega)
    have h2 := Int.emod_lt_of_pos (barS p R) (show 0 < m by omega)
    refine s420_17 ?_
    rw [z3]
    exact ⟨⟨by omega, by omega⟩, ⟨⟨by omega, by omega⟩, ⟨by omega, by omega⟩⟩, fun _ => ⟨⟨⟨by omega, by omega⟩, ⟨by omega, by omega⟩⟩, ⟨by omega, by omega⟩, K1, K0⟩, fun h => by omega⟩
  | succ t ih =>
    intro i s hi hs
    have hil : i < R.2.2.length := by omega
    have hmem : R.2.2[i] ∈ R.2.2 := List.getElem_mem hil
    have b9 := h9 _ hmem
    have bp := hok.2.2.2.2.2.2.1 _ hmem
    have z4 := (hz.2.2.2.2.1 r R hR).2.2.2 i _ (List.getElem?_eq_getElem hil)
    rw [Int.mul_zero, Int.zero_add] at z4
    have e173 : M 173 R.2.2[i] = p.getD R.2.2[i].toNat 0 := by
      have := h173 R.2.2[i].toNat (by omega)
      rw [Int.toNat_of_nonneg b9.1] at this
      exact this
    refine s420_17 ?_
    rw [z3, z4, e173]
    have nx := ih (i + 1) (s + p.getD R.2.2[i].toNat 0) (by omega) (by
      rw [hs, List.take_succ_eq_append_getElem hil, List.map_append, List.map_singleton, sum_app1])
    rw [show ((i + 1 : Nat) : Int) = (i : Int) + 1 by omega] at nx
    exact ⟨⟨by omega, by omega⟩, ⟨⟨by omega, by omega⟩, ⟨by omega, by omega⟩⟩, fun h => by omega, fun _ => ⟨⟨by omega, by omega⟩, ⟨by omega, by omega⟩, nx⟩⟩
theorem sp_bars (ho : pz_ok Z) {m : Int} (hm : 2 ≤ m ∧ m ≤ 3) {p : List Int} (hl : (p.length : Int) = Z.1 * Z.2.1) (hp : ∀ i : Nat, i < p.length → 0 ≤ p.getD i 0 ∧ p.getD i 0 < m) {M : fx_M} (hz : mz M 0 Z) (h173 : ∀ i : Nat, i < p.length → M 173 (i : Int) = p.getD i 0) (K : Q (some (jI (if barP Z m p then 1 else 0))) M) : wc kc (d + 2) 420 [jR 133, jI m] M Q := by
  have h9 := pz_n ho
  have h12 := ho.2.2.2.2.2.2.1
  have h1 : (p.all fun y => decide (0 ≤ y ∧ y < m)) = true := by
    rw [List.all_eq_true]
    intro y hy
    obtain ⟨i, hi, rfl⟩ := List.mem_iff_getElem.mp hy
    have := hp i hi
    rw [List.getD_eq_getElem?_getD, List.getElem?_eq_getElem hi, Option.getD_some] at this
    exact decide_eq_true this
  have hsb := sum_b (m := m) (p := p) (fun y hy => by
    obtain ⟨i, hi, rfl⟩ := List.mem_iff_getElem.mp hy
    have := hp i hi
    rw [List.getD_eq_getElem?_getD, List.getElem?_eq_getElem hi, Option.getD_some] at this
    exact this)
  have hs2 : (p.length : Int) * m ≤ 9 * 3 := Int.mul_le_mul (by omega) (by omega) (by omega) (by omega)
  have tot : (∀ R ∈ Z.2.2.2.1, barS p R % m = 0) → ∀ (t i : Nat) (s : Int), i + t = p.length → s = (p.take i).sum → wp kc (d + 2) 420 71 [some (jR 133), some (jI m), some (jI s), some (jI i), none] [] M Q := by
    intro hall t
    have h2 : (Z.2.2.2.1.all fun R => decide (barS p R % m = 0)) = true := by
      rw [List.all_eq_true]
      intro R hR
      exact decide_eq_true (hall R hR)
    induction t with
    | zero =>
      intro i s hi hs
      have es : s = p.sum := by rw [hs, List.take_of_length_le (by omega)]
      rw [es]
      have k1 := Int.emod_nonneg p.sum (show m ≠ 0 by omega)
      have k2 := Int.emod_lt_of_pos p.sum (show 0 < m by omega)
      refine s420_71 (s248 (s420_76 ?_))
      rw [hz.1, hz.2.1]
      refine ⟨⟨⟨by omega, by omega⟩, ⟨by omega, by omega⟩⟩, fun _ => ⟨⟨⟨by omega, by omega⟩, ⟨by omega, by omega⟩⟩, ⟨by omega, by omega⟩, ?_, ?_⟩, fun h => by omega⟩
      · split <;> omega
      · unfold barP at K
        rw [h1, h2] at K
        by_cases e : p.sum % m = 0
        · rw [if_pos e]
          simpa [e] using K
        · rw [if_neg e]
          simpa [e] using K
    | succ t ih =>
      intro i s hi hs
      have hil : i < p.length := by omega
      refine s420_71 (s248 (s420_76 ?_))
      rw [hz.1, hz.2.1, h173 i hil]
      have nx := ih (i + 1) (s + p.getD i 0) (by omega) (by
        rw [hs, List.take_succ_eq_append_getElem hil, sum_app1, List.getD_eq_getElem?_getD, List.getElem?_eq_getElem hil, Option.getD_some])
      rw [show ((i + 1 : Nat) : Int) = (i : Int) + 1 by omega] at nx
      exact ⟨⟨⟨by omega, by omega⟩, ⟨by omega, by omega⟩⟩, fun h => by omega, fun _ => ⟨⟨by omega, by omega⟩, nx⟩⟩
  have z : ∀ (t r : Nat), r + t = Z.2.2.2.1.length → (∀ (s : Nat) (R : PR), s < r → Z.2.2.2.1[s]? = some R → barS p R % m = 0) → wp kc (d + 2) 420 2 [some (jR 133), some (jI m), some (jI r), none, none] [] M Q := by
    intro t
    induction t with
    | zero =>
      intro r hr hs
      refine s420_2 ?_
      rw [hz.2.2.2.1]
      refine ⟨⟨⟨by omega, by omega⟩, ⟨by omega, by omega⟩⟩, fun _ => tot (fun R hR => ?_) p.length 0 0 (by omega) rfl, fun h => by omega⟩
      obtain ⟨s, hs1, hs2⟩ := List.mem_iff_getElem.mp hR
      exact hs s R (by omega) (by rw [List.getElem?_eq_getElem hs1, hs2])
    | succ t ih =>
      intro r hr hs
      have hrl : r < Z.2.2.2.1.length := by omega
      have hR := List.getElem?_eq_getElem hrl
      refine s420_2 ?_
      rw [hz.2.2.2.1]
      refine ⟨⟨⟨by omega, by omega⟩, ⟨by omega, by omega⟩⟩, fun h => by omega, fun _ => ?_⟩
      refine br_sum (d := d + 1) ho hm hl hp hz h173 hR (fun hne => ?_) (fun he => ?_) Z.2.2.2.1[r].2.2.length 0 0 (by omega) rfl
      · unfold barP at K
        have h2 : (Z.2.2.2.1.all fun R => decide (barS p R % m = 0)) = false := by
          rw [List.all_eq_false]
          exact ⟨_, List.getElem_mem hrl, by simpa using hne⟩
        rw [h2, Bool.and_false, Bool.false_and] at K
        exact K
      · have nx := ih (r + 1) (by omega) (fun s R hsr hR' => by
          by_cases e : s = r
          · subst e
            rw [hR] at hR'
            cases hR'
            exact he
          · exact hs s R (by omega) hR')
        rw [show ((r + 1 : Nat) : Int) = (r : Int) + 1 by omega] at nx
        exact nx
  exact s420 (z Z.2.2.2.1.length 0 (by omega) (fun s R hs => by omega))
theorem mb_text (ho : pz_ok Z) {x : List Int} (hx : (x.length : Int) = Z.1 * Z.2.1) : ∀ (t i : Nat) (M : fx_M), i + t = x.length → mz M 0 Z → m_ok M → (∀ i : Nat, i < x.length → M 173 (i : Int) = x.getD i 0) → Q none (m_app M (tFil (x.drop i))) → wp kc (d + 2) 418 65 [some (jR 133), none, some (jI i)] [] M Q := by
  have h9 := pz_n ho
  intro t
  induction t with
  | zero =>
    intro i M hi hz hO h173 K
    refine s418_65 (s248 (s418_70 ?_))
    rw [hz.1, hz.2.1]
    refine ⟨⟨⟨by omega, by omega⟩, ⟨by omega, by omega⟩⟩, fun _ => ?_, fun h => by omega⟩
    rw [List.drop_eq_nil_of_le (by omega)] at K
    exact K
  | succ t ih =>
    intro i M hi hz hO h173 K
    have hil : i < x.length := by omega
    refine s418_65 (s248 (s418_70 ?_))
    rw [hz.1, hz.2.1, h173 i hil]
    refine ⟨⟨⟨by omega, by omega⟩, ⟨by omega, by omega⟩⟩, fun h => by omega, fun _ => ⟨⟨by omega, by omega⟩, sp_sayByte hO (s418_86 ?_)⟩⟩
    have e : m_put M (48 + x.getD i 0) = m_app M [48 + x.getD i 0] := rfl
    have nx := ih (i + 1) (m_put M (48 + x.getD i 0)) (by omega) (mz_frM hz (fun b j h1 h2 => by rw [e, m_app_ne (by omega) (by omega)])) (m_ok_put hO) (fun j hj => by rw [e, m_app_ne (by omega) (by decide)]; exact h173 j hj) (by
      rw [drop_consD hil] at K
      exact K)
    rw [show ((i + 1 : Nat) : Int) = (i : Int) + 1 by omega] at nx
    exact nx
theorem sp_sayBarred {M : fx_M} (ho : pz_ok Z) (hz : mz M 0 Z) (hO : m_ok M) (K : ∀ M', mwr M M' (tBar Z) → Q none M') : wc kc (d + 5) 418 [jR 133] M Q := by
  have h9 := pz_n ho
  have w173 : ∀ {N N' : fx_M}, (∀ b j, b ≠ 173 → N' b j = N b j) → mwr N N' [] := fun f b j hb => f b j (fun e => hb (by unfold msc; omega))
  have mzw : ∀ {N : fx_M}, mwr M N [] → mz N 0 Z := fun h => mz_frM hz (fun b j h1 h2 => mwr_ne h (by unfold msc; omega) (by omega) (by omega))
  have loop : ∀ (m : Int), 2 ≤ m ∧ m ≤ 3 → (∀ N', mwr M N' [] → barL Z m = [] → wp kc (d + 5) 418 2 [some (jR 133), some (jI (m + 1)), none] [] N' Q) → (∀ x A, barL Z m = x :: A → wls (wrd 24) ++ [32, 48 + m, 32] ++ tFil x = tBar Z) → ∀ (t : Nat) (a : Nat → Int) (N : fx_M), (rmx (lowP m) (Z.1 * Z.2.1).toNat a (Z.1 * Z.2.1).toNat).length = t → mwr M N [] → (∀ i, i < (Z.1 * Z.2.1).toNat → N 173 (i : Int) = a i) → (∀ i, i < (Z.1 * Z.2.1).toNat → 0 ≤ a i ∧ a i < m) → rmx (barP Z m) (Z.1 * Z.2.1).toNat a (Z.1 * Z.2.1).toNat = barL Z m → wp kc (d + 5) 418 28 [some (jR 133), some (jI m), none] [] N Q := by
    intro m hm H0 H1 t
    induction t with
    | zero =>
      intro a N ht hw h173 hb hA
      refine s418_28 (sp_nextColours (d := d + 2) ho hm (mzw hw) h173 hb (fun h N' f => s418_33 ⟨⟨by omega, by omega⟩, fun _ => H0 N' (mwr_0 (mwr_tr hw (w173 f))) (by rw [← hA]; exact h _ hiP_bar), fun h => absurd rfl h⟩) (fun a' N' f g1 g2 g3 => ?_))
      exfalso
      have := g3 _ (hiP_low (m := m))
      rw [List.eq_nil_of_length_eq_zero ht, if_pos (by
        unfold lowP
        rw [List.all_eq_true]
        intro y hy
        obtain ⟨i, hi, rfl⟩ := List.mem_map.mp hy
        exact decide_eq_true (g2 i (List.mem_range.mp hi)))] at this
      simp at this
    | succ t ih =>
      intro a N ht hw h173 hb hA
      refine s418_28 (sp_nextColours (d := d + 2) ho hm (mzw hw) h173 hb (fun h N' f => s418_33 ⟨⟨by omega, by omega⟩, fun _ => H0 N' (mwr_0 (mwr_tr hw (w173 f))) (by rw [← hA]; exact h _ hiP_bar), fun h => absurd rfl h⟩) (fun a' N' f g1 g2 g3 => s418_33 ⟨⟨by omega, by omega⟩, fun h => by omega, fun _ => ?_⟩))
      have hw' : mwr M N' [] := mwr_0 (mwr_tr hw (w173 f))
      have hpl : ((List.range (Z.1 * Z.2.1).toNat).map a').length = (Z.1 * Z.2.1).toNat := by rw [List.length_map, List.length_range]
      have hpg : ∀ i : Nat, i < (Z.1 * Z.2.1).toNat → ((List.range (Z.1 * Z.2.1).toNat).map a').getD i 0 = a' i := fun i hi => by
        rw [List.getD_eq_getElem?_getD, List.getElem?_map, List.getElem?_range hi]
        rfl
      refine sp_bars (d := d + 2) (p := (List.range (Z.1 * Z.2.1).toNat).map a') ho hm (by rw [hpl]; omega) (fun i hi => by rw [hpl] at hi; rw [hpg i hi]; exact g2 i hi) (mzw hw') (fun i hi => by rw [hpl] at hi; rw [hpg i hi]; exact g1 i hi) (s418_41 ?_)
      have hb2 := g3 _ (hiP_bar (Z := Z) (m := m))
      by_cases hP : barP Z m ((List.range (Z.1 * Z.2.1).toNat).map a') = true
      · rw [if_pos hP]
        rw [if_pos hP, hA] at hb2
        have hON := mwr_ok hw' hO
        have e := H1 _ _ hb2
        refine ⟨⟨by omega, by omega⟩, fun _ => sp_word (d := d + 3) (by omega) (by omega) (s418_53 (sp_sayCount (d := d) (wrd_ok (by omega) (by omega)) hON (by omega) (by omega) (s418_57 (sp_sayByte (d := d + 3) (m_ok_app hON) (s418_63 ?_))))), fun h => by omega⟩
        have e4 : m_put (m_app N' (wls (wrd 24) ++ 32 :: dgs m)) 32 = m_app N' (wls (wrd 24) ++ 32 :: dgs m ++ [32]) := m_app_app (M := N') (cs := wls (wrd 24) ++ 32 :: dgs m) (ds := [32])
        rw [e4]
        refine mb_text (d := d + 3) (x := (List.range (Z.1 * Z.2.1).toNat).map a') ho (by rw [hpl]; omega) ((List.range (Z.1 * Z.2.1).toNat).map a').length 0 _ (by omega) (mz_frM (mzw hw') (fun b j h1 h2 => m_app_ne (by omega) (by omega))) (m_ok_app hON) (fun i hi => by
          rw [hpl] at hi
          rw [m_app_ne (by omega) (by decide), hpg i hi]
          exact g1 i hi) (K _ ?_)
        rw [List.drop_zero, m_app_app, ← e]
        have h5 := mwr_tr hw' (mwr_app (cs := wls (wrd 24) ++ 32 :: dgs m ++ [32] ++ tFil ((List.range (Z.1 * Z.2.1).toNat).map a')))
        rw [dgs_1 ⟨by omega, by omega⟩] at h5 ⊢
        simpa using h5
      · rw [if_neg hP]
        rw [if_neg hP, List.nil_append, hA] at hb2
        refine ⟨⟨by omega, by omega⟩, fun h => absurd rfl h, fun _ => ih a' N' ?_ hw' g1 g2 hb2.symm⟩
        have h6 := g3 _ (hiP_low (m := m))
        rw [if_pos (by
          unfold lowP
          rw [List.all_eq_true]
          intro y hy
          obtain ⟨i, hi, rfl⟩ := List.mem_map.mp hy
          exact decide_eq_true (g2 i (List.mem_range.mp hi)))] at h6
        rw [h6] at ht
        simp at ht
        exact ht
  have clr : ∀ (m : Int), 2 ≤ m ∧ m ≤ 3 → (∀ N', mwr M N' [] → barL Z m = [] → wp kc (d + 5) 418 2 [some (jR 133), some (jI (m + 1)), none] [] N' Q) → (∀ x A, barL Z m = x :: A → wls (wrd 24) ++ [32, 48 + m, 32] ++ tFil x = tBar Z) → ∀ (t i : Nat) (N : fx_M), i + t = 9 → mwr M N [] → (∀ k : Nat, k < i → N 173 (k : Int) = 0) → wp kc (d + 5) 418 9 [some (jR 133), some (jI m), some (jI i)] [] N Q := by
    intro m hm H0 H1 t
    induction t with
    | zero =>
      intro i N hi hw h173
      refine s418_9 ⟨⟨by omega, by omega⟩, fun _ => loop m hm H0 H1 _ (fun _ => 0) N rfl hw (fun k hk => h173 k (by omega)) (fun _ _ => ⟨by omega, by omega⟩) ?_, fun h => by omega⟩
      have := rmx_zr (P := barP Z m) (n := (Z.1 * Z.2.1).toNat) (a := fun _ => 0) (Z.1 * Z.2.1).toNat 0 (by omega) (fun _ _ _ => rfl)
      rw [if_neg, List.nil_append, rmx, List.append_nil] at this
      · exact this.symm
      · have hs : ((List.range (Z.1 * Z.2.1).toNat).map fun _ => (0 : Int)).sum = 0 := by
          generalize List.range (Z.1 * Z.2.1).toNat = l
          induction l with
          | nil => rfl
          | cons y l ihl => simpa using ihl
        unfold barP
        rw [hs]
        simp
    | succ t ih =>
      intro i N hi hw h173
      have nx := ih (i + 1) (fx_up N 173 (i : Int) 0) (by omega) (mwr_0 (mwr_tr hw (mwr_up (by unfold msc; omega)))) (fun k hk => by
        by_cases e : k = i
        · subst e
          rw [fx_up_self]
        · rw [fx_up_nk (by omega)]
          exact h173 k (by omega))
      rw [show ((i + 1 : Nat) : Int) = (i : Int) + 1 by omega] at nx
      exact s418_9 ⟨⟨by omega, by omega⟩, fun h => by omega, fun _ => ⟨⟨by omega, by omega⟩, nx⟩⟩
  refine s418 (s418_2 ⟨⟨by omega, by omega⟩, fun h => by omega, fun _ => clr 2 ⟨by omega, by omega⟩ (fun N' w0 h0 => ?_) (fun x A h => by unfold tBar; rw [h]; rfl) 9 0 M (by omega) mwr_rf (fun k hk => by omega)⟩)
  refine s418_2 ⟨⟨by omega, by omega⟩, fun h => by omega, fun _ => clr 3 ⟨by omega, by omega⟩ (fun N'' w1 h1 => ?_) (fun x A h => by unfold tBar; rw [h0, h]; rfl) 9 0 N' (by omega) w0 (fun k hk => by omega)⟩
  refine s418_2 ⟨⟨by omega, by omega⟩, fun _ => sp_word (d := d + 3) (by omega) (by omega) (s418_105 (sp_sayWord (d := d + 1) (wrd_ok (by omega) (by omega)) (mwr_ok w1 hO) (s418_108 (K _ ?_)))), fun h => by omega⟩
  have h2 := mwr_tr w1 (mwr_app (cs := wls (wrd 38)))
  rw [List.nil_append] at h2
  unfold tBar
  rw [h0, h1]
  exact h2
end MBA
