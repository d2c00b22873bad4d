/-! SEEK of the reference: the first answer, the next one. -/
def lst (cs : List Int) : Int := cs.foldl (fun m c => if m < c then c else m) 0
theorem lst_ge : ∀ (cs : List Int) (a : Int), a ≤ cs.foldl (fun m c => if m < c then c else m) a ∧ ∀ c ∈ cs, c ≤ cs.foldl (fun m c => if m < c then c else m) a
  | [], a => ⟨by simp, fun c hc => by simp at hc⟩
  | b :: t, a => by
    obtain ⟨h1, h2⟩ := lst_ge t (if a < b then b else a)
    simp only [List.foldl_cons]
    have : a ≤ (if a < b then b else a) ∧ b ≤ (if a < b then b else a) := by split <;> omega
    refine ⟨by omega, fun c hc => ?_⟩
    rcases List.mem_cons.mp hc with rfl | hc
    · omega
    · exact h2 c hc
theorem lst_le : ∀ (cs : List Int) (a b : Int), a ≤ b → (∀ c ∈ cs, c ≤ b) → cs.foldl (fun m c => if m < c then c else m) a ≤ b
  | [], a, b, h, _ => h
  | c :: t, a, b, h, hc => by
    simp only [List.foldl_cons]
    refine lst_le t _ b ?_ (fun x hx => hc x (List.mem_cons_of_mem _ hx))
    have := hc c (List.mem_cons_self ..)
    split <;> omega
theorem getD_app {p t : List Int} {i : Nat} (h : i < p.length) : (p ++ t).getD i 0 = p.getD i 0 := by
  rw [List.getD_eq_getElem?_getD, List.getElem?_append_left h, ← List.getD_eq_getElem?_getD]
theorem getD_end {p t : List Int} {y : Int} : (p ++ y :: t).getD p.length 0 = y := by
  rw [List.getD_eq_getElem?_getD, List.getElem?_append_right (Nat.le_refl _), Nat.sub_self]
  rfl
theorem selx_app {p t cs : List Int} (h : ∀ c ∈ cs, 0 ≤ c ∧ c < p.length) : selx (p ++ t) cs = selx p cs := by
  unfold selx
  apply List.map_congr_left
  intro c hc
  have := h c hc
  exact getD_app (by omega)
/-- the rules that end at a cell are met -/
def fnk (Z : PZ) (p : List Int) (k : Nat) : Bool := Z.2.2.2.1.all fun R => !(decide (lst R.2.2 = k)) || met Z.1 R (selx p R.2.2)
/-- a prefix that holds so far -/
def fnp (Z : PZ) (p : List Int) : Prop := (∀ i : Nat, i < p.length → 0 ≤ p.getD i 0 ∧ p.getD i 0 < Z.2.2.1 ∧ (Z.2.2.2.2.getD i (-1) = -1 ∨ Z.2.2.2.2.getD i (-1) = p.getD i 0)) ∧ ∀ R ∈ Z.2.2.2.1, lst R.2.2 < p.length → met Z.1 R (selx p R.2.2) = true
theorem okx_iff {Z : PZ} {x : List Int} : okx Z x = true ↔ (∀ i : Nat, i < x.length → x.getD i 0 < Z.2.2.1 ∧ (Z.2.2.2.2.getD i (-1) = -1 ∨ Z.2.2.2.2.getD i (-1) = x.getD i 0)) ∧ ∀ R ∈ Z.2.2.2.1, met Z.1 R (selx x R.2.2) = true := by
  unfold okx gvx
  rw [Bool.and_eq_true, Bool.and_eq_true, List.all_eq_true, List.all_eq_true, List.all_eq_true]
  constructor
  · rintro ⟨⟨h1, h2⟩, h3⟩
    refine ⟨fun i hi => ⟨by simpa using h1 _ (getD_mem hi), by simpa using h2 i (List.mem_range.mpr hi)⟩, h3⟩
  · rintro ⟨h1, h2⟩
    refine ⟨⟨fun y hy => ?_, fun i hi => ?_⟩, h2⟩
    · obtain ⟨i, hi, rfl⟩ := mem_getD hy
      simpa using (h1 i hi).1
    · simpa using (h1 i (List.mem_range.mp hi)).2
theorem rule_lst {Z : PZ} (ho : pz_ok Z) {R : PR} (hR : R ∈ Z.2.2.2.1) : (∀ c ∈ R.2.2, 0 ≤ c ∧ c ≤ lst R.2.2) ∧ 0 ≤ lst R.2.2 ∧ lst R.2.2 < Z.1 * Z.2.1 := by
  have h := (ho.2.2.2.2.2.2.2.1 R hR).2.2.2.2.2.2.1
  have h9 := pz_n ho
  have h2 := lst_ge R.2.2 0
  exact ⟨fun c hc => ⟨(h c hc).1, h2.2 c hc⟩, h2.1, Int.lt_of_le_of_lt (lst_le R.2.2 0 (Z.1 * Z.2.1 - 1) (by omega) (fun c hc => by have := h c hc; omega)) (by omega)⟩
theorem fnp_ok {Z : PZ} (ho : pz_ok Z) {p : List Int} (h : fnp Z p) (hl : (p.length : Int) = Z.1 * Z.2.1) : okx Z p = true :=
  okx_iff.mpr ⟨fun i hi => (h.1 i hi).2, fun R hR => h.2 R hR (by have := (rule_lst ho hR).2.2; omega)⟩
theorem fnp_nil {Z : PZ} (ho : pz_ok Z) : fnp Z [] := ⟨fun i hi => by simp at hi, fun R hR h => by have := (rule_lst ho hR).2.1; simp at h; omega⟩
theorem fnp_step {Z : PZ} (ho : pz_ok Z) {p : List Int} {y : Int} (h : fnp Z p) (hy : 0 ≤ y ∧ y < Z.2.2.1) (hg : Z.2.2.2.2.getD p.length (-1) = -1 ∨ Z.2.2.2.2.getD p.length (-1) = y) (hf : fnk Z (p ++ [y]) p.length = true) : fnp Z (p ++ [y]) := by
  refine ⟨fun i hi => ?_, fun R hR hl => ?_⟩
  · rw [List.length_append] at hi
    simp only [List.length_cons, List.length_nil] at hi
    by_cases e : i < p.length
    · rw [getD_app e]
      exact h.1 i e
    · have e : i = p.length := by omega
      subst e
      rw [getD_end]
      exact ⟨hy.1, hy.2, hg⟩
  · rw [List.length_append] at hl
    simp only [List.length_cons, List.length_nil] at hl
    have hc := rule_lst ho hR
    by_cases e : lst R.2.2 < p.length
    · rw [selx_app (fun c hc2 => by have := hc.1 c hc2; omega)]
      exact h.2 R hR e
    · have e : lst R.2.2 = p.length := by omega
      have := List.all_eq_true.mp hf R hR
      simpa [e] using this
theorem fnp_pre {Z : PZ} (ho : pz_ok Z) {p : List Int} {y : Int} (h : fnp Z (p ++ [y])) : fnp Z p := by
  have hlen : (p ++ [y]).length = p.length + 1 := by simp
  refine ⟨fun i hi => ?_, fun R hR hl => ?_⟩
  · have := h.1 i (by omega)
    rw [getD_app hi] at this
    exact this
  · have := h.2 R hR (by omega)
    rw [selx_app (fun c hc2 => by have := (rule_lst ho hR).1 c hc2; omega)] at this
    exact this
/-- no answer below -/
theorem sbx_out {Z : PZ} (ho : pz_ok Z) {p : List Int} {y : Int} {m : Nat} (h : ¬ (y < Z.2.2.1 ∧ (Z.2.2.2.2.getD p.length (-1) = -1 ∨ Z.2.2.2.2.getD p.length (-1) = y) ∧ fnk Z (p ++ [y]) p.length = true)) : sbx (okx Z) (p ++ [y]) m = [] := by
  refine sbx_nil (fun t ht => ?_)
  rw [← Bool.not_eq_true]
  intro hk
  obtain ⟨h1, h2⟩ := okx_iff.mp hk
  apply h
  have e1 : p ++ [y] ++ t = p ++ y :: t := by simp
  have h3 := h1 p.length (by simp)
  rw [e1, getD_end] at h3
  refine ⟨h3.1, h3.2, List.all_eq_true.mpr fun R hR => ?_⟩
  by_cases e : lst R.2.2 = p.length
  · have := h2 R hR
    rw [selx_app (fun c hc2 => by have := (rule_lst ho hR).1 c hc2; simp; omega)] at this
    simp [this]
  · simp [e]
def syA (M : fx_M) (x : List Int) : Prop := ∀ i : Nat, i < x.length → M 155 (i : Int) = x.getD i 0
def f155 (M N : fx_M) : Prop := ∀ b j, b ≠ 155 → N b j = M b j
/-- the reference is ready to seek -/
def msr (M : fx_M) (Z : PZ) : Prop := mz M 0 Z ∧ ∀ (r : Nat) (R : PR), Z.2.2.2.1[r]? = some R → M 159 (r : Int) = lst R.2.2
theorem msr_fr {M N : fx_M} {Z : PZ} (h : msr M Z) (hf : f155 M N) : msr N Z := by
  obtain ⟨⟨h1, h2, h3, h4, h5, h6⟩, h7⟩ := h
  unfold msr mz
  rw [hf 146 _ (by decide), hf 147 _ (by decide), hf 148 _ (by decide), hf 149 _ (by decide)]
  refine ⟨⟨h1, h2, h3, h4, fun r R hR => ?_, fun c hc => ?_⟩, fun r R hR => ?_⟩
  · rw [hf 150 _ (by decide), hf 151 _ (by decide), hf 152 _ (by decide)]
    obtain ⟨a, b, c, e⟩ := h5 r R hR
    exact ⟨a, b, c, fun i x hx => by rw [hf 153 _ (by decide)]; exact e i x hx⟩
  · rw [hf 154 _ (by decide)]
    exact h6 c hc
  · rw [hf 159 _ (by decide)]
    exact h7 r R hR
theorem f155_up {M : fx_M} {k v : Int} : f155 M (fx_up M 155 k v) := fun b j hb => by
  unfold fx_up
  rw [if_neg (fun h => hb h.1)]
theorem f155_tr {M N O : fx_M} (h : f155 M N) (h2 : f155 N O) : f155 M O := fun b j hb => (h2 b j hb).trans (h b j hb)
theorem f155_rf {M : fx_M} : f155 M M := fun _ _ _ => rfl
section SEEK
variable {kc : List va_E} {d : Nat} {M : fx_M} {Q : Option fx_V → fx_M → Prop} {Z : PZ}
theorem mxs_selx {R : PR} {p : List Int} (hs : syA M p) (hc : ∀ c ∈ R.2.2, 0 ≤ c ∧ c < p.length) : mxs M R = selx p R.2.2 := by
  unfold mxs selx
  apply List.map_congr_left
  intro c h
  have := hc c h
  have h2 := hs c.toNat (by omega)
  rw [show ((c.toNat : Nat) : Int) = c by omega] at h2
  exact h2
theorem fine_loop (ho : pz_ok Z) (hm : msr M Z) {p : List Int} (hs : syA M p) {k : Nat} (hk : p.length = k + 1) (h9 : k < 9) (hv : ∀ i : Nat, i < p.length → 0 ≤ p.getD i 0 ∧ p.getD i 0 < 4) (K : Q (some (jI (bI (fnk Z p k)))) M) : ∀ (t r : Nat), r + t = Z.2.2.2.1.length → (∀ (q : Nat) (R : PR), q < r → Z.2.2.2.1[q]? = some R → (!(decide (lst R.2.2 = k)) || met Z.1 R (selx p R.2.2)) = true) → wp kc (d + 4) 272 2 [some (jR 133), some (jI k), some (jI r)] [] M Q := by
  have h12 := ho.2.2.2.2.2.2.1
  have h149 := hm.1.2.2.2.1
  intro t
  induction t with
  | zero =>
    intro r hr hq
    refine s272_2 ?_
    rw [h149]
    refine ⟨⟨⟨by omega, by omega⟩, ⟨by omega, by omega⟩⟩, fun _ => ?_, fun h => by omega⟩
    have : fnk Z p k = true := by
      unfold fnk
      rw [List.all_eq_true]
      intro R hR
      obtain ⟨q, hq1, rfl⟩ := List.mem_iff_getElem.mp hR
      exact hq q _ (by omega) (List.getElem?_eq_getElem hq1)
    rw [this] at K
    exact K
  | succ t ih =>
    intro r hr hq
    have hrl : r < Z.2.2.2.1.length := by omega
    have hR := List.getElem?_eq_getElem hrl
    have hl := hm.2 r _ hR
    have hlb := rule_lst ho (List.getElem_mem hrl)
    have h99 := pz_n ho
    have nx : (!(decide (lst (Z.2.2.2.1[r]).2.2 = k)) || met Z.1 Z.2.2.2.1[r] (selx p (Z.2.2.2.1[r]).2.2)) = true → wp kc (d + 4) 272 2 [some (jR 133), some (jI k), some (jI ((r : Int) + 1))] [] M Q := fun ht => by
      have := ih (r + 1) (by omega) (fun q R hq2 hR2 => by
        by_cases e : q = r
        · subst e
          rw [hR] at hR2
          cases hR2
          exact ht
        · exact hq q R (by omega) hR2)
      rw [show ((r + 1 : Nat) : Int) = (r : Int) + 1 by omega] at this
      exact this
    refine s272_2 ?_
    rw [h149, hl]
    refine ⟨⟨⟨by omega, by omega⟩, ⟨by omega, by omega⟩⟩, fun h => by omega, fun _ => ⟨⟨by omega, by omega⟩, ⟨⟨by omega, by omega⟩, ⟨by omega, by omega⟩⟩, fun hne => ?_, fun he => ?_⟩⟩
    · exact nx (by simp [hne])
    · have hcs : ∀ c ∈ (Z.2.2.2.1[r]).2.2, 0 ≤ c ∧ c < (p.length : Int) := fun c hc => by
        have := hlb.1 c hc
        omega
      have hx := mxs_selx (R := Z.2.2.2.1[r]) hs hcs
      refine sp_mIsMet (mrl_of ho hm.1 hR (fun c hc => ?_)) (s272_27 ?_)
      · have h1 := hcs c hc
        have h2 := hs c.toNat (by omega)
        rw [show ((c.toNat : Nat) : Int) = c by omega] at h2
        have h3 := hv c.toNat (by omega)
        omega
      · rw [hx]
        unfold bI
        by_cases e : met Z.1 Z.2.2.2.1[r] (selx p (Z.2.2.2.1[r]).2.2) = true
        · rw [if_pos e]
          exact ⟨⟨by omega, by omega⟩, fun _ => nx (by simp [e]), fun h => by omega⟩
        · rw [if_neg e]
          refine ⟨⟨by omega, by omega⟩, fun h => absurd rfl h, fun _ => ?_⟩
          have : fnk Z p k = false := by
            unfold fnk
            rw [List.all_eq_false]
            exact ⟨_, List.getElem_mem hrl, by simp [he, e]⟩
          rw [this] at K
          exact K
theorem sp_isFine (ho : pz_ok Z) (hm : msr M Z) {p : List Int} (hs : syA M p) {k : Nat} (hk : p.length = k + 1) (h9 : k < 9) (hv : ∀ i : Nat, i < p.length → 0 ≤ p.getD i 0 ∧ p.getD i 0 < 4) (K : Q (some (jI (bI (fnk Z p k)))) M) : wc kc (d + 4) 272 [jR 133, jI k] M Q :=
  s272 (fine_loop ho hm hs hk h9 hv K Z.2.2.2.1.length 0 (by omega) (fun q R h => by omega))
theorem sp_symbolBehind {k : Nat} (h9 : k < 9) (ho : pz_ok Z) (hm : mz M 0 Z) {v : Int} (hv : M 155 (k : Int) + 1 = v) (hb : 0 ≤ v ∧ v ≤ 4) (K : ∀ y : Int, (Z.2.2.2.2.getD k (-1) = -1 → y = v) → (Z.2.2.2.2.getD k (-1) ≠ -1 → Z.2.2.2.2.getD k (-1) < v → y = Z.2.2.1) → (Z.2.2.2.2.getD k (-1) ≠ -1 → v ≤ Z.2.2.2.2.getD k (-1) → y = Z.2.2.2.2.getD k (-1)) → Q (some (jI y)) M) : wc kc (d + 2) 270 [jR 133, jI k] M Q := by
  have hg := hm.2.2.2.2.2 k h9
  rw [show (9 * (0 : Int) + (k : Int)) = k by omega] at hg
  have hgb := ho.2.2.2.2.2.2.2.2.2.1 (Z.2.2.2.2.getD k (-1)) (by
    have h9l := ho.2.2.2.2.2.2.2.2.1
    rw [List.getD_eq_getElem?_getD, List.getElem?_eq_getElem (by omega)]
    exact List.getElem_mem _)
  have hs4 := ho.2.2.2.2.2.1
  have h148 := hm.2.2.1
  refine s270 ⟨⟨by omega, by omega⟩, s271 ⟨⟨by omega, by omega⟩, s270_14 ?_⟩⟩
  rw [hg, hv]
  refine ⟨⟨by omega, by omega⟩, fun h => K v (fun _ => rfl) (fun h2 => by omega) (fun h2 => by omega), fun h => s271 ⟨⟨by omega, by omega⟩, s270_23 ?_⟩⟩
  rw [hg]
  refine ⟨⟨⟨by omega, by omega⟩, ⟨by omega, by omega⟩⟩, fun h2 => ?_, fun h2 => s271 ⟨⟨by omega, by omega⟩, s270_31 ?_⟩⟩
  · rw [h148]
    exact K _ (fun h3 => by omega) (fun _ _ => rfl) (fun _ h3 => by omega)
  · rw [hg]
    exact K _ (fun h3 => by omega) (fun _ h3 => by omega) (fun _ _ => rfl)
end SEEK
