/-! pick, clash, least of the class. -/
theorem sbx_pre {P : List Int → Bool} : ∀ (b a : List Int) (m : Nat), (∀ i : Nat, i < b.length → 0 ≤ b.getD i 0 ∧ b.getD i 0 < 4) → (∀ x : List Int, P x = true → ∀ i : Nat, i < b.length → a.length + i < x.length → x.getD (a.length + i) 0 = b.getD i 0) → sbx P a (b.length + m) = sbx P (a ++ b) m
  | [], a, m, _, _ => by simp
  | y :: b, a, m, hv, h => by
    have h0 := hv 0 (by simp)
    have e0 : (y :: b).getD 0 0 = y := rfl
    rw [e0] at h0
    rw [show (y :: b).length + m = (b.length + m) + 1 by simp; omega, sbx_only (y := y) h0 (fun z hz => sbx_nil (fun t ht => by
      rw [← Bool.not_eq_true]
      intro hk
      have := h _ hk 0 (by simp) (by simp)
      rw [Nat.add_zero, e0, List.append_assoc] at this
      have e1 : (a ++ ([z] ++ t)).getD a.length 0 = z := getD_end
      rw [e1] at this
      exact hz this))]
    rw [sbx_pre b (a ++ [y]) m (fun i hi => by
      have := hv (i + 1) (by simp; omega)
      exact this) (fun x hx i hi hl => by
      have := h x hx (i + 1) (by simp; omega) (by simp at hl; omega)
      rw [show (a ++ [y]).length + i = a.length + (i + 1) by simp; omega]
      exact this), List.append_assoc]
    rfl
/-- the fillings of a standing with a prefix set are those below the prefix -/
theorem ansS_pre {Z : PZ} {S : Nat → Nat} {p : List Int} {m : Nat} (hl : p.length + m = (Z.1 * Z.2.1).toNat) (hv : ∀ i : Nat, i < p.length → 0 ≤ p.getD i 0 ∧ p.getD i 0 < 4 ∧ (S i).testBit (p.getD i 0).toNat = true) : ansS Z (rS S p) = sbx (okS Z S) p m := by
  unfold ansS
  rw [← hl]
  -- the symbols of a filling are not below nothing, so the prefix is read through fils
  have e1 : sbx (okS Z (rS S p)) [] (p.length + m) = sbx (fun x => okS Z (rS S p) x && x.all (fun y => decide (0 ≤ y))) [] (p.length + m) := sbx_congr (fun t ht => by
    obtain ⟨-, h⟩ := mem_fils.mp ht
    have : ([] ++ t).all (fun y => decide (0 ≤ y)) = true := by
      rw [List.all_eq_true]
      intro y hy
      exact decide_eq_true (h y (by simpa using hy)).1
    simp only [this, Bool.and_true])
  rw [e1, sbx_pre p [] m (fun i hi => ⟨(hv i hi).1, (hv i hi).2.1⟩) (fun x hx i hi hl => by
    simp only [List.length_nil, Nat.zero_add] at hl ⊢
    obtain ⟨hx1, hx2⟩ := Bool.and_eq_true_iff.mp hx
    have h1 := (okS_iff.mp hx1).1 i hl
    have h2 := of_decide_eq_true (List.all_eq_true.mp hx2 _ (getD_mem hl))
    unfold rS at h1
    rw [if_pos hi, pow_bit] at h1
    have h3 := of_decide_eq_true h1
    have h4 := hv i hi
    omega)]
  rw [List.nil_append]
  refine sbx_congr (fun t ht => ?_)
  obtain ⟨ht1, ht2⟩ := mem_fils.mp ht
  have hall : (p ++ t).all (fun y => decide (0 ≤ y)) = true := by
    rw [List.all_eq_true]
    intro y hy
    rcases List.mem_append.mp hy with hy | hy
    · obtain ⟨i, hi, e⟩ := mem_getD hy
      have := (hv i hi).1
      exact decide_eq_true (by omega)
    · exact decide_eq_true (ht2 y hy).1
  simp only [hall, Bool.and_true]
  rw [Bool.eq_iff_iff, okS_iff, okS_iff]
  apply and_congr_left
  intro _
  constructor
  · intro h i hi
    by_cases e : i < p.length
    · rw [getD_app e]
      exact (hv i e).2.2
    · have := h i hi
      unfold rS at this
      rw [if_neg e] at this
      exact this
  · intro h i hi
    unfold rS
    by_cases e : i < p.length
    · rw [if_pos e, getD_app e, pow_bit]
      exact decide_eq_true rfl
    · rw [if_neg e]
      exact h i hi
theorem ansS_cg {Z Z' : PZ} {S : Nat → Nat} (h1 : Z.1 = Z'.1) (h2 : Z.2.1 = Z'.2.1) (h3 : Z.2.2.2.1 = Z'.2.2.2.1) : ansS Z S = ansS Z' S := by
  unfold ansS okS
  rw [h1, h2, h3]
/-- all symbols of a cell -/
def s_all (Z : PZ) (S : Nat → Nat) (c : Nat) : Nat → Nat := fun k => if k = c then S k ||| (2 ^ Z.2.2.1.toNat - 1) else S k
theorem all_num : ∀ s : Fin 4, fx_lshl 1 (((s : Nat) : Int) + 1) - 1 = ((2 ^ ((s : Nat) + 1) - 1 : Nat) : Int) := by decide +kernel
theorem sta_all {Z : PZ} (ho : pz_ok Z) {v : Int} {S : Nat → Nat} (h : sta v S) {c : Nat} (hc : c < 9) : sta (fx_lor v (fx_lshl (fx_lshl 1 Z.2.2.1 - 1) (4 * (c : Int)))) (s_all Z S c) := by
  have h5 := ho.2.2.2.2.1
  have h6 := ho.2.2.2.2.2.1
  obtain ⟨s, hs⟩ : ∃ s : Nat, Z.2.2.1 = (s : Int) + 1 := ⟨(Z.2.2.1 - 1).toNat, by omega⟩
  have en := all_num ⟨s, by omega⟩
  simp only at en
  rw [hs, en]
  refine ⟨in64_lor _ _, fun i hi => ?_⟩
  have hpw : 2 ^ (s + 1) - 1 < 16 := by
    have : (2 : Nat) ^ (s + 1) ≤ 2 ^ 4 := Nat.pow_le_pow_right (by decide) (by omega)
    simp only [Nat.reducePow] at this
    have h0 : 0 < (2 : Nat) ^ (s + 1) := Nat.pow_pos (by decide)
    omega
  rw [lbit_lor, h.2 i hi, lbit_lshl _ ⟨by omega, by omega⟩, lbit_nat (by omega), m1_bit]
  have et : (4 * (c : Int)).toNat = 4 * c := by omega
  rw [et]
  unfold s_all
  rw [hs, show ((s : Int) + 1).toNat = s + 1 by omega]
  by_cases e : i / 4 = c
  · rw [if_pos e, Nat.testBit_or, m1_bit]
    have h40 : i < 40 := by omega
    have e2 : i - 4 * c = i % 4 := by omega
    rw [e2]
    simp [h40, hi, show 4 * c ≤ i by omega]
  · rw [if_neg e]
    have : (decide (4 * c ≤ i) && decide (i - 4 * c < s + 1)) = false := by
      rw [Bool.and_eq_false_iff]
      by_cases h4 : 4 * c ≤ i
      · exact Or.inr (decide_eq_false (by omega))
      · exact Or.inl (decide_eq_false h4)
    rw [this]
    simp
theorem or_m1 {a s : Nat} (h : a < 2 ^ s) : a ||| (2 ^ s - 1) = 2 ^ s - 1 := by
  apply Nat.eq_of_testBit_eq
  intro i
  rw [Nat.testBit_or, m1_bit]
  by_cases hi : i < s
  · simp [hi]
  · have : a.testBit i = false := Nat.testBit_lt_two_pow (Nat.lt_of_lt_of_le h (Nat.pow_le_pow_right (by decide) (by omega)))
    simp [this, hi]
theorem s_all_first {Z : PZ} (ho : pz_ok Z) {c k : Nat} (hc : (c : Int) < Z.1 * Z.2.1) (hk : k < 10) : s_all Z (s_first Z) c k = s_first (gdel Z c) k := by
  have h9 := pz_n ho
  have hg : gv (gdel Z c) k = if k = c then -1 else gv Z k := gv_give (pz_9 ho) (by omega)
  unfold gv at hg
  have hok := (s_first_ok ho k hk).1
  unfold s_all
  by_cases e : k = c
  · rw [if_pos e, or_m1 (hok (by omega))]
    unfold s_first
    rw [hg, if_pos e, if_pos (show (k : Int) < (gdel Z c).1 * (gdel Z c).2.1 from by show (k : Int) < Z.1 * Z.2.1; omega), if_neg (by omega)]
    rfl
  · rw [if_neg e]
    unfold s_first
    rw [hg, if_neg e]
    rfl
theorem s_first_ne {Z : PZ} (ho : pz_ok Z) : s_ne Z (s_first Z) := fun c hc => by
  unfold s_first
  rw [if_pos hc]
  have h5 := ho.2.2.2.2.1
  split
  · exact Nat.ne_of_gt (Nat.pow_pos (by decide))
  · have : (2 : Nat) ^ 1 ≤ 2 ^ Z.2.2.1.toNat := Nat.pow_le_pow_right (by decide) (by omega)
    omega
theorem s_free_ne {Z : PZ} (ho : pz_ok Z) : s_ne Z (s_free Z) := fun c hc => by
  unfold s_free
  rw [if_pos hc]
  have h5 := ho.2.2.2.2.1
  have : (2 : Nat) ^ 1 ≤ 2 ^ Z.2.2.1.toNat := Nat.pow_le_pow_right (by decide) (by omega)
  omega
theorem s_free_eq {Z : PZ} : s_first (zfre Z) = s_free Z := by
  funext c
  unfold s_first s_free
  have : (zfre Z).2.2.2.2.getD c (-1) = -1 := by
    show (List.replicate 9 (-1 : Int)).getD c (-1) = -1
    rw [List.getD_eq_getElem?_getD, List.getElem?_replicate]
    split <;> rfl
  rw [this, if_neg (show ¬ (0 : Int) ≤ -1 by decide)]
  rfl
section CPK
variable {L : Nat} {xs : Nat → Int32} {d : Nat} {Q : Option fx_V → fx_M → Prop} {Z : PZ}
theorem rS_ne {S : Nat → Nat} {p : List Int} (h : s_ne Z S) : s_ne Z (rS S p) := fun c hc => by
  unfold rS
  split
  · exact Nat.ne_of_gt (Nat.pow_pos (by decide))
  · exact h c hc
theorem sbx_len_le {P : List Int → Bool} {p : List Int} {m : Nat} : (sbx P p m).length ≤ 4 ^ m := by
  unfold sbx
  refine Nat.le_trans (List.length_filter_le _ _) ?_
  rw [List.length_map, fils_len]
  exact Nat.le_refl _
/-- within a cell -/
theorem pkc_in (ho : pz_ok Z) {S : Nat → Nat} (hs : s_ok Z S) (hne : s_ne Z S) {M : fx_M} (hc : ckn M 11 Z) {p : List Int} {m : Nat} (hl : ((p.length + m + 1 : Nat) : Int) = Z.1 * Z.2.1) (hf : ∀ i : Nat, i < p.length → 0 ≤ p.getD i 0 ∧ p.getD i 0 < 4 ∧ (S i).testBit (p.getD i 0).toNat = true) {v : Int} (hx : sta v (rS S p)) {x : List Int} (K : ∀ (y : Nat) (w : Int) (n : Nat), y < 4 → (S p.length).testBit y = true → sta w (rS S (p ++ [(y : Int)])) → (sbx (okS Z S) (p ++ [(y : Int)]) m)[n]? = some x → wp (kcs L xs) (d + 14) 93 9 [some (jR 29), none, none, none, some (jL w), none, some (jI n), some (jI ((p.length : Int) + 1)), none, none, none, none, none] [] M Q) : ∀ (t y n : Nat), y + t = 4 → (sbA (okS Z S) p m t)[n]? = some x → n < 1000000 → wp (kcs L xs) (d + 14) 93 33 [some (jR 29), none, none, none, some (jL v), none, some (jI n), some (jI (p.length : Int)), some (jI (S p.length : Nat)), some (jI y), none, none, none] [] M Q := by
  have h9 := pz_n ho
  have hpl : p.length < 10 := by omega
  have hS16 := s_ok_16 ho hs hpl
  intro t
  induction t with
  | zero =>
    intro y n hy hn
    rw [sbA_zero] at hn
    simp at hn
  | succ t ih =>
    intro y n hy hn hnb
    rw [sbA_succ, show (3 : Int) - (t : Int) = (y : Int) by omega] at hn
    have hbit := sm_bit ⟨S p.length, hS16⟩ ⟨y, by omega⟩
    simp only at hbit
    refine s93_33 ⟨⟨by omega, by omega⟩, fun h => by omega, fun _ => ?_⟩
    rw [hbit]
    by_cases hb : (S p.length).testBit y = true
    · rw [if_pos hb]
      refine ⟨⟨by omega, by omega⟩, fun h => by omega, fun _ => ?_⟩
      have hysym : (y : Int) < Z.2.2.1 := by
        have := bit_lt ((hs p.length hpl).1 (by omega)) hb
        have h1 := ho.2.2.2.2.1
        omega
      refine sp_only hx ⟨by omega, by omega⟩ ⟨by omega, by omega⟩ (fun w hw => s93_58 ?_)
      rw [Int.toNat_natCast, Int.toNat_natCast, rS_only] at hw
      have hlen1 : (p ++ [(y : Int)]).length = p.length + 1 := by simp
      have hf1 : ∀ i : Nat, i < (p ++ [(y : Int)]).length → 0 ≤ (p ++ [(y : Int)]).getD i 0 ∧ (p ++ [(y : Int)]).getD i 0 < 4 ∧ (S i).testBit ((p ++ [(y : Int)]).getD i 0).toNat = true := fun i hi => by
        rw [hlen1] at hi
        by_cases e : i < p.length
        · rw [getD_app e]
          exact hf i e
        · have e : i = p.length := by omega
          subst e
          rw [getD_end]
          exact ⟨by omega, by omega, hb⟩
      have hpok : s_ok Z (rS S (p ++ [(y : Int)])) := rS_ok ho hs (by rw [hlen1]; omega) (fun i hi => ⟨(hf1 i hi).1, by
        rw [hlen1] at hi
        have := bit_lt ((hs i (by omega)).1 (by omega)) (hf1 i (by rw [hlen1]; exact hi)).2.2
        have h1 := ho.2.2.2.2.1
        have h2 := (hf1 i (by rw [hlen1]; exact hi)).1
        omega⟩)
      have eA : ansS Z (rS S (p ++ [(y : Int)])) = sbx (okS Z S) (p ++ [(y : Int)]) m := ansS_pre (by rw [hlen1]; omega) hf1
      refine sp_count (lim := 1048576) ho hpok (rS_ne hne) hw hc ⟨by omega, by omega⟩ (s93_68 ?_)
      rw [eA]
      have hble : (sbx (okS Z S) (p ++ [(y : Int)]) m).length ≤ 4 ^ m := sbx_len_le
      have hb2 : 4 ^ m ≤ 4 ^ 9 := Nat.pow_le_pow_right (by decide) (by omega)
      have hb3 : (sbx (okS Z S) (p ++ [(y : Int)]) m).length ≤ 262144 := Nat.le_trans hble (Nat.le_trans hb2 (by decide))
      have em : mnL ((sbx (okS Z S) (p ++ [(y : Int)]) m).length : Nat) ((1048576 : Nat) : Int) = ((sbx (okS Z S) (p ++ [(y : Int)]) m).length : Nat) := by
        unfold mnL
        rw [if_pos (by omega)]
      rw [em]
      clear em hble hb2
      refine ⟨⟨⟨by omega, by omega⟩, ⟨by omega, by omega⟩⟩, fun hge => ?_, fun hlt => ?_⟩
      · rw [List.getElem?_append_right (by omega)] at hn
        have nx := ih (y + 1) (n - (sbx (okS Z S) (p ++ [(y : Int)]) m).length) (by omega) hn (by omega)
        rw [show ((y + 1 : Nat) : Int) = (y : Int) + 1 by omega, show ((n - (sbx (okS Z S) (p ++ [(y : Int)]) m).length : Nat) : Int) = (n : Int) - ((sbx (okS Z S) (p ++ [(y : Int)]) m).length : Nat) by omega] at nx
        exact nx
      · rw [List.getElem?_append_left (by omega)] at hn
        exact K y w n (by omega) hb hw hn
    · rw [if_neg hb]
      refine ⟨⟨by omega, by omega⟩, fun _ => ?_, fun h => absurd rfl h⟩
      rw [sbx_cut (t := 0) ho (by omega) (fun i hi => ⟨(hf i hi).1, (hf i hi).2.1⟩) (by omega) (Or.inl (by simpa using hb)), List.nil_append] at hn
      have nx := ih (y + 1) n (by omega) hn hnb
      rw [show ((y + 1 : Nat) : Int) = (y : Int) + 1 by omega] at nx
      exact nx
theorem pkc_loop (ho : pz_ok Z) {S : Nat → Nat} (hs : s_ok Z S) (hne : s_ne Z S) {M : fx_M} (hc : ckn M 11 Z) {x : List Int} (K : ∀ w, sta w (rS S x) → Q (some (jL w)) M) : ∀ (m : Nat) (p : List Int) (v : Int) (n : Nat), ((p.length + m : Nat) : Int) = Z.1 * Z.2.1 → (∀ i : Nat, i < p.length → 0 ≤ p.getD i 0 ∧ p.getD i 0 < 4 ∧ (S i).testBit (p.getD i 0).toNat = true) → sta v (rS S p) → (sbx (okS Z S) p m)[n]? = some x → wp (kcs L xs) (d + 14) 93 9 [some (jR 29), none, none, none, some (jL v), none, some (jI n), some (jI (p.length : Int)), none, none, none, none, none] [] M Q := by
  have h9 := pz_n ho
  intro m
  induction m with
  | zero =>
    intro p v n hl hf hx hn
    have hm := mem_at hn
    rw [sbx_zero] at hm
    have hxe : x = p := by
      split at hm
      · exact List.mem_singleton.mp hm
      · cases hm
    subst hxe
    refine s93_9 ?_
    rw [hc.1.2.2.1]
    exact ⟨⟨⟨by omega, by omega⟩, ⟨by omega, by omega⟩⟩, fun _ => K v hx, fun h => by omega⟩
  | succ m ih =>
    intro p v n hl hf hx hn
    have hpl : p.length < 10 := by omega
    have hS16 := s_ok_16 ho hs hpl
    have hrS : rS S p p.length = S p.length := by
      unfold rS
      rw [if_neg (by omega)]
    have hnlt : n < 1000000 := by
      have h1 := (List.getElem?_eq_some_iff.mp hn).1
      have h2 := sbx_len_le (P := okS Z S) (p := p) (m := m + 1)
      have hb2 : 4 ^ (m + 1) ≤ 4 ^ 9 := Nat.pow_le_pow_right (by decide) (by omega)
      have hb3 : 4 ^ (m + 1) ≤ 262144 := Nat.le_trans hb2 (by decide)
      omega
    refine s93_9 ?_
    rw [hc.1.2.2.1]
    refine ⟨⟨⟨by omega, by omega⟩, ⟨by omega, by omega⟩⟩, fun h => by omega, fun _ => sp_may hx ⟨by omega, by omega⟩ (by rw [Int.toNat_natCast, hrS]; exact hS16) (s93_28 ?_)⟩
    rw [Int.toNat_natCast, hrS]
    rw [sbx_succ] at hn
    refine pkc_in ho hs hne hc (by omega) hf hx (fun y w n2 hy hb hw hn2 => ?_) 4 0 n (by omega) hn hnlt
    have hlen1 : (p ++ [(y : Int)]).length = p.length + 1 := by simp
    have nx := ih (p ++ [(y : Int)]) w n2 (by rw [hlen1]; omega) (fun i hi => by
      rw [hlen1] at hi
      by_cases e : i < p.length
      · rw [getD_app e]
        exact hf i e
      · have e : i = p.length := by omega
        subst e
        rw [getD_end]
        exact ⟨by omega, by omega, hb⟩) hw hn2
    rw [hlen1, show ((p.length + 1 : Nat) : Int) = (p.length : Int) + 1 by omega] at nx
    exact nx
theorem sp_pick (ho : pz_ok Z) {S : Nat → Nat} (hs : s_ok Z S) (hne : s_ne Z S) {M : fx_M} (hc : ckn M 11 Z) {v : Int} (hx : sta v S) {n : Nat} {x : List Int} (hn : (ansS Z S)[n]? = some x) (K : ∀ w, sta w (rS S x) → Q (some (jL w)) M) : wc (kcs L xs) (d + 14) 93 [jR 29, jL v, jI n] M Q := by
  have h9 := pz_n ho
  exact s93 (pkc_loop ho hs hne hc K (Z.1 * Z.2.1).toNat [] v n (by simp; omega) (fun i hi => by simp at hi) (by rw [rS_nil]; exact hx) hn)
theorem sp_writePick {M : fx_M} (ho : pz_ok Z) (hc : ckn M 11 Z) (hO : o_ok M 3) {n : Nat} (hn : n < 1000000000) (K : Q none (o_app M 3 (tPick Z n))) : wc (kcs L xs) (d + 15) 92 [jR 29, jI n] M Q := by
  have h9 := pz_n ho
  have hle := ans_le ho
  refine s92 (sp_first puz11 hc.1 ho (fun v hv => s92_7 (sp_count (lim := 1048576) ho (s_first_ok ho) (s_first_ne ho) hv hc ⟨by omega, by omega⟩ (s92_16 ?_))))
  rw [ansS_first ho]
  have em : mnL ((ans Z).length : Nat) ((1048576 : Nat) : Int) = ((ans Z).length : Nat) := by
    unfold mnL
    rw [if_pos (by omega)]
  rw [em]
  refine ⟨⟨⟨by omega, by omega⟩, ⟨by omega, by omega⟩⟩, fun hlt => ?_, fun hge => sp_puts out3 lt_1000071 hO (s92_28 ?_)⟩
  · have hlt : n < (ans Z).length := by omega
    have hx := List.getElem?_eq_getElem hlt
    have hm : (ans Z)[n] ∈ ans Z := List.getElem_mem hlt
    obtain ⟨xl, xv⟩ := ans_len hm
    refine sp_pick ho (s_first_ok ho) (s_first_ne ho) hc hv (x := (ans Z)[n]) (by rw [ansS_first ho]; exact hx) (fun w hw => s92_38 (sp_writeFilling ho hw (by omega) (fun i hi => by unfold rS; rw [if_pos hi]) (fun i hi => xv _ (getD_mem hi)) hc.1 hO (s92_41 ?_)))
    unfold tPick at K
    rw [hx] at K
    exact K
  · unfold tPick at K
    rw [List.getElem?_eq_none (by omega)] at K
    exact K
end CPK
