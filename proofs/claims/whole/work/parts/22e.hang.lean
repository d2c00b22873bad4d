/-! hanging of the class. -/
theorem onB_snoc : ∀ (l : List Int) (x : Int), onB (l ++ [x]) = onB l + (if x = 1 then 2 ^ l.length else 0)
  | [], x => by
    show (if x = 1 then 1 else 0) + 2 * 0 = 0 + (if x = 1 then 2 ^ 0 else 0)
    split <;> rfl
  | y :: t, x => by
    show (if y = 1 then 1 else 0) + 2 * onB (t ++ [x]) = ((if y = 1 then 1 else 0) + 2 * onB t) + (if x = 1 then 2 ^ (t.length + 1) else 0)
    rw [onB_snoc t x]
    by_cases h : x = 1
    · rw [if_pos h, if_pos h, Nat.pow_succ]
      omega
    · rw [if_neg h, if_neg h]
      omega
theorem onB_lt : ∀ l : List Int, onB l < 2 ^ l.length
  | [] => by decide
  | y :: t => by
    have := onB_lt t
    show (if y = 1 then 1 else 0) + 2 * onB t < 2 ^ (t.length + 1)
    rw [Nat.pow_succ]
    split <;> omega
theorem or_add : ∀ (m : Fin 16) (k : Fin 4), (m : Nat) < 2 ^ (k : Nat) → fx_or ((m : Nat) : Int) (fx_shl 1 ((k : Nat) : Int)) = (((m : Nat) + 2 ^ (k : Nat) : Nat) : Int) := by decide +kernel
theorem or_zero : ∀ (m : Fin 16), fx_or ((m : Nat) : Int) 0 = ((m : Nat) : Int) := by decide +kernel
def awy (w a b : Int) : Int := (if (0 : Int) ≤ a % w - b % w then (a % w - b % w : Int) else 0 - (a % w - b % w)) + (if (0 : Int) ≤ a / w - b / w then (a / w - b / w : Int) else 0 - (a / w - b / w))
theorem awy_all : ∀ (w : Fin 3) (a b : Fin 9), (decide (awy (((w : Nat) + 1 : Nat) : Int) ((a : Nat) : Int) ((b : Nat) : Int) = 1) = bes (((w : Nat) + 1 : Nat) : Int) ((a : Nat) : Int) ((b : Nat) : Int)) ∧ 0 ≤ awy (((w : Nat) + 1 : Nat) : Int) ((a : Nat) : Int) ((b : Nat) : Int) ∧ awy (((w : Nat) + 1 : Nat) : Int) ((a : Nat) : Int) ((b : Nat) : Int) ≤ 20 ∧ -10 ≤ ((a : Nat) : Int) % (((w : Nat) + 1 : Nat) : Int) - ((b : Nat) : Int) % (((w : Nat) + 1 : Nat) : Int) ∧ ((a : Nat) : Int) % (((w : Nat) + 1 : Nat) : Int) - ((b : Nat) : Int) % (((w : Nat) + 1 : Nat) : Int) ≤ 10 ∧ -10 ≤ ((a : Nat) : Int) / (((w : Nat) + 1 : Nat) : Int) - ((b : Nat) : Int) / (((w : Nat) + 1 : Nat) : Int) ∧ ((a : Nat) : Int) / (((w : Nat) + 1 : Nat) : Int) - ((b : Nat) : Int) / (((w : Nat) + 1 : Nat) : Int) ≤ 10 := by decide +kernel
theorem awy_b {w a b : Int} (hw : 1 ≤ w ∧ w ≤ 3) (ha : 0 ≤ a ∧ a < 9) (hb : 0 ≤ b ∧ b < 9) : (awy w a b = 1 ↔ bes w a b = true) ∧ 0 ≤ awy w a b ∧ awy w a b ≤ 20 ∧ -10 ≤ a % w - b % w ∧ a % w - b % w ≤ 10 ∧ -10 ≤ a / w - b / w ∧ a / w - b / w ≤ 10 := by
  have h := awy_all ⟨(w - 1).toNat, by omega⟩ ⟨a.toNat, by omega⟩ ⟨b.toNat, by omega⟩
  simp only at h
  rw [show (((w - 1).toNat + 1 : Nat) : Int) = w by omega, show ((a.toNat : Nat) : Int) = a by omega, show ((b.toNat : Nat) : Int) = b by omega] at h
  refine ⟨?_, h.2⟩
  rw [← h.1]
  simp
theorem sm_or : ∀ (a b : Fin 16), fx_or ((a : Nat) : Int) ((b : Nat) : Int) = (((a : Nat) ||| (b : Nat) : Nat) : Int) := by decide +kernel
theorem sm_and : ∀ (a b : Fin 16), fx_and ((a : Nat) : Int) ((b : Nat) : Int) = (((a : Nat) &&& (b : Nat) : Nat) : Int) := by decide +kernel
theorem sm_bit : ∀ (a : Fin 16) (i : Fin 4), fx_and (fx_shr ((a : Nat) : Int) ((i : Nat) : Int)) 1 = if (a : Nat).testBit (i : Nat) then 1 else 0 := by decide +kernel
theorem sm_low : ∀ (a : Fin 16), fx_and ((a : Nat) : Int) (-((a : Nat) : Int)) = (((a : Nat) &&& (16 - (a : Nat)) : Nat) : Int) := by decide +kernel
/-- a passage from place k on -/
def hgI (b : Nat → Nat) (set : Nat) : Nat → Nat → Nat → Nat
  | 0, _, r => r
  | t + 1, k, r => hgI b set t (k + 1) (if r.testBit k then r ||| (b k &&& set) else r)
theorem hgP_I (b : Nat → Nat) (set r : Nat) : hgP b set r = hgI b set 4 0 r := rfl
theorem or16 {a b : Nat} (ha : a < 16) (hb : b < 16) : a ||| b < 16 := Nat.or_lt_two_pow (n := 4) ha hb
theorem hgI_lt {b : Nat → Nat} {set : Nat} (hs : set < 16) : ∀ (t k r : Nat), r < 16 → hgI b set t k r < 16
  | 0, k, r, h => h
  | t + 1, k, r, h => by
    unfold hgI
    refine hgI_lt hs t (k + 1) _ ?_
    split
    · exact or16 h (Nat.lt_of_le_of_lt Nat.and_le_right hs)
    · exact h
section HNG
variable {kc : List va_E} {d p : Nat} {Q : Option fx_V → fx_M → Prop} {Z : PZ} {R : PR} {r : Nat}
def lnP (w : Int) (l : List Int) (i k : Nat) : Nat := onB ((l.take k).map fun c => if bes w (l.getD i 0) c then 1 else 0)
theorem lnP_lt {w : Int} {l : List Int} {i k : Nat} (h4 : l.length ≤ 4) : lnP w l i k < 16 := by
  unfold lnP
  refine Nat.lt_of_lt_of_le (onB_lt _) ?_
  rw [List.length_map, List.length_take]
  exact Nat.pow_le_pow_right (n := 2) (by decide) (show _ ≤ 4 by omega)
theorem lnP_succ {w : Int} {l : List Int} {i k : Nat} (hk : k < l.length) : lnP w l i (k + 1) = lnP w l i k + (if bes w (l.getD i 0) (l.getD k 0) then 2 ^ k else 0) := by
  unfold lnP
  rw [List.take_succ_eq_append_getElem hk, List.map_append]
  show onB (_ ++ [if bes w (l.getD i 0) l[k] then (1 : Int) else 0]) = _
  rw [onB_snoc, List.length_map, List.length_take, show min k l.length = k by omega]
  rw [show l.getD k 0 = l[k] by rw [List.getD_eq_getElem?_getD, List.getElem?_eq_getElem hk]; rfl]
  congr 1
  by_cases h : bes w (l.getD i 0) l[k] = true
  · simp [h]
  · simp [h]
/-- what stays while lines are made -/
def lfr (p : Nat) (M N : fx_M) : Prop := ∀ b j, b ≠ p + 8 → N b j = M b j
theorem cz_lfr {M N : fx_M} (h : lfr p M N) (hz : cz M p Z) : cz N p Z := by
  have f : ∀ (b : Nat) (j : Int), b ≤ p + 7 → N b j = M b j := fun b j hb => h b j (by omega)
  obtain ⟨z0, z1, z2, z3, z4, z5, z6, z7, z8, zw⟩ := hz
  refine ⟨by rw [f _ _ (by omega)]; exact z0, by rw [f _ _ (by omega)]; exact z1, by rw [f _ _ (by omega)]; exact z2, by rw [f _ _ (by omega)]; exact z3, by rw [f _ _ (by omega)]; exact z4, fun r R hR => ?_, fun c hc => by rw [f _ _ (by omega)]; exact z6 c hc, by rw [f _ _ (by omega)]; exact z7, by rw [f _ _ (by omega)]; exact z8, wys_fr zw (f _ _ (by omega)) (fun j => f _ _ (by omega))⟩
  obtain ⟨a1, a2, a3, a4, a5⟩ := z5 r R hR
  exact ⟨by rw [f _ _ (by omega)]; exact a1, by rw [f _ _ (by omega)]; exact a2, by rw [f _ _ (by omega)]; exact a3, fun i hi => by rw [f _ _ (by omega)]; exact a4 i hi, by rw [f _ _ (by omega)]; exact a5⟩
theorem hl_in (Hp : fx_puz p) (ho : pz_ok Z) (hR : Z.2.2.2.1[r]? = some R) {i : Nat} (hi : i < 4) : ∀ (t k : Nat) (M : fx_M), k + t = R.2.2.length → cz M p Z → M (p + 8) (i : Int) = ((if i < R.2.2.length then lnP Z.1 R.2.2 i k else 0 : Nat) : Int) → (∀ N : fx_M, (∀ (b : Nat) (j : Int), ¬ (b = p + 8 ∧ j = (i : Int)) → N b j = M b j) → N (p + 8) (i : Int) = ((lnB Z.1 R.2.2 i : Nat) : Int) → wp kc (d + 2) 76 2 [some (jR p), some (jI r), some (jI ((i : Int) + 1)), none, none, none, none] [] N Q) → wp kc (d + 2) 76 16 [some (jR p), some (jI r), some (jI i), some (jI k), none, none, none] [] M Q := by
  obtain ⟨⟨k1, k2, k3, k4, k5, k6, k7, k8⟩, hr12⟩ := rule_in ho hR
  have h9 := pz_n ho
  have hcell : ∀ j : Nat, j < R.2.2.length → 0 ≤ R.2.2.getD j 0 ∧ R.2.2.getD j 0 < 9 := fun j hj => by
    have hm : R.2.2.getD j 0 ∈ R.2.2 := by
      rw [List.getD_eq_getElem?_getD, List.getElem?_eq_getElem hj]
      exact List.getElem_mem hj
    have := k7 _ hm
    omega
  intro t
  induction t with
  | zero =>
    intro k M hk hz hl K
    obtain ⟨a1, a2, a3, a4, a5⟩ := hz.2.2.2.2.2.1 r R hR
    refine s76_16 Hp ?_
    rw [a3]
    refine ⟨⟨by omega, by omega⟩, ⟨⟨by omega, by omega⟩, ⟨by omega, by omega⟩⟩, fun _ => K M (fun _ _ _ => rfl) ?_, fun h => by omega⟩
    rw [hl]
    unfold lnB lnP
    rw [List.take_of_length_le (by omega)]
  | succ t ih =>
    intro k M hk hz hl K
    obtain ⟨a1, a2, a3, a4, a5⟩ := hz.2.2.2.2.2.1 r R hR
    refine s76_16 Hp ?_
    rw [a3]
    refine ⟨⟨by omega, by omega⟩, ⟨⟨by omega, by omega⟩, ⟨by omega, by omega⟩⟩, fun h => by omega, fun _ => ⟨⟨by omega, by omega⟩, ⟨⟨by omega, by omega⟩, ⟨by omega, by omega⟩⟩, fun hge => K M (fun _ _ _ => rfl) ?_, fun hlt => ?_⟩⟩
    · rw [hl, if_neg (by omega)]
      unfold lnB
      rw [if_neg (by omega)]
    · have hi2 : i < R.2.2.length := by omega
      have ci := a4 i hi
      have ck := a4 k (by omega)
      rw [if_pos hi2] at hl
      have g : ∀ j : Nat, j < R.2.2.length → R.2.2.getD j 9 = R.2.2.getD j 0 := fun j hj => by
        rw [List.getD_eq_getElem?_getD, List.getD_eq_getElem?_getD, List.getElem?_eq_getElem hj]
        rfl
      rw [g i hi2] at ci
      rw [g k (by omega)] at ck
      rw [ci, ck]
      have b1 := hcell i hi2
      have b2 := hcell k (by omega)
      obtain ⟨y1, y2, y3, y4, y5, y6, y7⟩ := awy_b (w := Z.1) (a := R.2.2.getD i 0) (b := R.2.2.getD k 0) ⟨ho.1, ho.2.1⟩ b1 b2
      have hw1 := ho.1
      have hw2 := ho.2.1
      have hl16 := lnP_lt (w := Z.1) (l := R.2.2) (i := i) (k := k) k6
      refine ⟨⟨by omega, by omega⟩, ⟨by omega, by omega⟩, sp_across (d := d) Hp hz.1 ⟨hw1, hw2⟩ ⟨by omega, by omega⟩ (s76_66 Hp (sp_across (d := d) Hp hz.1 ⟨hw1, hw2⟩ ⟨by omega, by omega⟩ (s76_72 Hp ⟨⟨by omega, by omega⟩, sp_down (d := d) Hp hz.1 ⟨hw1, hw2⟩ ⟨by omega, by omega⟩ (s76_82 Hp (sp_down (d := d) Hp hz.1 ⟨hw1, hw2⟩ ⟨by omega, by omega⟩ (s76_88 Hp ?_)))⟩)))⟩
      rw [hl]
      refine ⟨⟨by omega, by omega⟩, ⟨by omega, by omega⟩, ?_, ⟨by omega, by omega⟩, ?_⟩
      · show fx_in32 (awy Z.1 (R.2.2.getD i 0) (R.2.2.getD k 0))
        exact ⟨by omega, by omega⟩
      · have nx := ih (k + 1) (fx_up M (p + 8) i (fx_or (lnP Z.1 R.2.2 i k : Nat) (if awy Z.1 (R.2.2.getD i 0) (R.2.2.getD k 0) = 1 then (fx_shl 1 (k : Int) : Int) else 0))) (by omega) (cz_lfr (fun b j hb => fx_up_na hb) hz) ?_ (fun N hN hN2 => K N (fun b j hb => by rw [hN b j hb, fx_up_ne hb]) hN2)
        · rw [show ((k + 1 : Nat) : Int) = (k : Int) + 1 by omega] at nx
          exact nx
        · rw [fx_up_self, if_pos hi2, lnP_succ (by omega)]
          have hlt2 : lnP Z.1 R.2.2 i k < 2 ^ k := by
            unfold lnP
            refine Nat.lt_of_lt_of_le (onB_lt _) ?_
            rw [List.length_map, List.length_take]
            exact Nat.pow_le_pow_right (n := 2) (by decide) (by omega)
          by_cases hb : bes Z.1 (R.2.2.getD i 0) (R.2.2.getD k 0) = true
          · rw [if_pos (y1.mpr hb), if_pos hb]
            exact or_add ⟨lnP Z.1 R.2.2 i k, hl16⟩ ⟨k, by omega⟩ hlt2
          · rw [if_neg (fun h => hb (y1.mp h)), if_neg hb]
            exact or_zero ⟨lnP Z.1 R.2.2 i k, hl16⟩
theorem hl_out (Hp : fx_puz p) (ho : pz_ok Z) (hR : Z.2.2.2.1[r]? = some R) : ∀ (t i : Nat) (M : fx_M), i + t = 4 → cz M p Z → (∀ j : Nat, j < i → M (p + 8) (j : Int) = ((lnB Z.1 R.2.2 j : Nat) : Int)) → (∀ N : fx_M, lfr p M N → (∀ j : Nat, j < 4 → N (p + 8) (j : Int) = ((lnB Z.1 R.2.2 j : Nat) : Int)) → wp kc (d + 2) 76 133 [some (jR p), none, some (jI 0), some (jI 0), none, none, none] [] N Q) → wp kc (d + 2) 76 2 [some (jR p), some (jI r), some (jI i), none, none, none, none] [] M Q := by
  intro t
  induction t with
  | zero =>
    intro i M hi hz hl K
    exact s76_2 Hp ⟨⟨by omega, by omega⟩, fun _ => K M (fun _ _ _ => rfl) (fun j hj => hl j (by omega)), fun h => by omega⟩
  | succ t ih =>
    intro i M hi hz hl K
    refine s76_2 Hp ⟨⟨by omega, by omega⟩, fun h => by omega, fun _ => ⟨⟨by omega, by omega⟩, ?_⟩⟩
    refine hl_in Hp ho hR (i := i) (by omega) R.2.2.length 0 _ (by omega) (cz_lfr (fun b j hb => fx_up_na hb) hz) ?_ (fun N hN hN2 => ?_)
    · rw [fx_up_self]
      split <;> rfl
    · have nx := ih (i + 1) N (by omega) (cz_lfr (M := M) (fun b j hb => by rw [hN b j (fun hx => hb hx.1), fx_up_na hb]) hz) (fun j hj => ?_) (fun P hP hP2 => K P (fun b j hb => by rw [hP b j hb, hN b j (fun hx => hb hx.1), fx_up_na hb]) hP2)
      · rw [show ((i + 1 : Nat) : Int) = (i : Int) + 1 by omega] at nx
        exact nx
      · by_cases hj2 : j = i
        · rw [hj2]
          exact hN2
        · rw [hN _ _ (by omega), fx_up_nk (by omega)]
          exact hl j (by omega)
theorem hp_in (Hp : fx_puz p) {M : fx_M} {b : Nat → Nat} (hb : ∀ j : Nat, j < 4 → M (p + 8) (j : Int) = ((b j : Nat) : Int) ∧ b j < 16) {set : Nat} (hs : set < 16) {h v5 : Int} : ∀ (t k r : Nat), k + t = 4 → r < 16 → wp kc (d + 1) 76 148 [some (jR p), none, some (jI h), some (jI set), some (jI (hgI b set t k r : Nat)), some (jI (v5 + 1)), none] [] M Q → wp kc (d + 1) 76 157 [some (jR p), none, some (jI h), some (jI set), some (jI r), some (jI v5), some (jI k)] [] M Q := by
  intro t
  induction t with
  | zero =>
    intro k r hk hr K
    exact s76_157 Hp ⟨⟨by omega, by omega⟩, fun _ => K, fun h => by omega⟩
  | succ t ih =>
    intro k r hk hr K
    obtain ⟨m1, m2⟩ := hb k (by omega)
    have e := sm_bit ⟨r, hr⟩ ⟨k, by omega⟩
    simp only at e
    refine s76_157 Hp ?_
    rw [e, m1]
    have hbb : 0 ≤ (if r.testBit k = true then (1 : Int) else 0) ∧ (if r.testBit k = true then (1 : Int) else 0) ≤ 1 := by split <;> omega
    refine ⟨⟨by omega, by omega⟩, fun h => by omega, fun _ => ⟨⟨by omega, by omega⟩, fun _ => ⟨by omega, by omega⟩, ?_⟩⟩
    unfold hgI at K
    by_cases ht : r.testBit k = true
    · rw [if_pos ht] at K
      have hr2 : r ||| (b k &&& set) < 16 := or16 hr (Nat.lt_of_le_of_lt Nat.and_le_right hs)
      have nx := ih (k + 1) _ (by omega) hr2 K
      rw [if_pos ht, if_neg (by decide)]
      have e2 := sm_and ⟨b k, m2⟩ ⟨set, hs⟩
      simp only at e2
      have e3 := sm_or ⟨r, hr⟩ ⟨b k &&& set, Nat.lt_of_le_of_lt Nat.and_le_right hs⟩
      simp only at e3
      rw [e2, e3]
      rw [show ((k + 1 : Nat) : Int) = (k : Int) + 1 by omega] at nx
      exact nx
    · rw [if_neg ht] at K
      have nx := ih (k + 1) r (by omega) hr K
      rw [if_neg ht, if_pos rfl]
      have e3 := or_zero ⟨r, hr⟩
      simp only at e3
      rw [e3]
      rw [show ((k + 1 : Nat) : Int) = (k : Int) + 1 by omega] at nx
      exact nx
theorem hp_set (Hp : fx_puz p) {M : fx_M} {b : Nat → Nat} (hb : ∀ j : Nat, j < 4 → M (p + 8) (j : Int) = ((b j : Nat) : Int) ∧ b j < 16) : ∀ (t set h : Nat), set + t = 16 → h < 2 ^ set → (∀ s : Nat, s < set → h.testBit s = hgs b s) → (∀ h2 : Nat, h2 < 65536 → (∀ s : Nat, s < 16 → h2.testBit s = hgs b s) → Q (some (jI h2)) M) → wp kc (d + 1) 76 133 [some (jR p), none, some (jI h), some (jI set), none, none, none] [] M Q := by
  intro t
  induction t with
  | zero =>
    intro set h hs hh hb2 K
    have hs : set = 16 := by omega
    subst hs
    exact s76_133 Hp ⟨⟨by omega, by omega⟩, fun _ => K h hh hb2, fun h => by omega⟩
  | succ t ih =>
    intro set h hs hh hb2 K
    have hs16 : set < 16 := by omega
    have e := sm_low ⟨set, hs16⟩
    simp only at e
    refine s76_133 Hp ⟨⟨by omega, by omega⟩, fun h => by omega, fun _ => ?_⟩
    rw [e]
    have q0 : set &&& (16 - set) < 16 := Nat.lt_of_le_of_lt Nat.and_le_left hs16
    refine s76_148 Hp ⟨⟨by omega, by omega⟩, fun h => by omega, fun _ => hp_in Hp hb hs16 4 0 _ (by omega) q0 ?_⟩
    have q1 := hgI_lt (b := b) hs16 4 0 _ q0
    refine s76_148 Hp ⟨⟨by omega, by omega⟩, fun h => by omega, fun _ => hp_in Hp hb hs16 4 0 _ (by omega) q1 ?_⟩
    have q2 := hgI_lt (b := b) hs16 4 0 _ q1
    refine s76_148 Hp ⟨⟨by omega, by omega⟩, fun h => by omega, fun _ => hp_in Hp hb hs16 4 0 _ (by omega) q2 ?_⟩
    have q3 := hgI_lt (b := b) hs16 4 0 _ q2
    refine s76_148 Hp ⟨⟨by omega, by omega⟩, fun _ => ⟨⟨by omega, by omega⟩, ⟨by omega, by omega⟩, ?_⟩, fun h => by omega⟩
    have hlt : h < 65536 := Nat.lt_of_lt_of_le hh (Nat.pow_le_pow_right (n := 2) (by decide) (show _ ≤ 16 by omega))
    have hps : 2 ^ set < 65536 := Nat.pow_lt_pow_right (by decide) (show _ < 16 from hs16)
    have key : ∀ h' : Nat, (∀ s : Nat, s < set + 1 → h'.testBit s = hgs b s) → h' < 2 ^ (set + 1) → wp kc (d + 1) 76 133 [some (jR p), none, some (jI h'), some (jI ((set : Int) + 1)), none, none, none] [] M Q := fun h' hx hy => by
      have nx := ih (set + 1) h' (by omega) hy hx K
      rw [show ((set + 1 : Nat) : Int) = (set : Int) + 1 by omega] at nx
      exact nx
    have hgd : hgs b set = (hgI b set 4 0 (hgI b set 4 0 (hgI b set 4 0 (set &&& (16 - set)))) == set) := rfl
    have hht : h.testBit set = false := Nat.testBit_lt_two_pow hh
    by_cases hq : hgI b set 4 0 (hgI b set 4 0 (hgI b set 4 0 (set &&& (16 - set)))) = set
    · rw [hq, if_pos rfl, fx_shl_1 (by omega), Int.toNat_natCast, fx_or_nat (by omega) (by omega), Int.toNat_natCast, Int.toNat_natCast]
      refine key _ (fun s hs => ?_) ?_
      · rw [Nat.testBit_or, pow_bit]
        by_cases h1 : s = set
        · rw [h1, hgd, hq]
          simp
        · rw [hb2 s (by omega)]
          simp [h1]
      · exact Nat.or_lt_two_pow (Nat.lt_of_lt_of_le hh (Nat.pow_le_pow_right (by decide) (by omega))) (Nat.pow_lt_pow_right (by decide) (by omega))
    · rw [if_neg (by omega), fx_or_nat (by omega) (by omega), Int.toNat_natCast, Int.toNat_zero, Nat.or_zero]
      refine key _ (fun s hs => ?_) (Nat.lt_of_lt_of_le hh (Nat.pow_le_pow_right (by decide) (by omega)))
      by_cases h1 : s = set
      · rw [h1, hgd, hht]
        simp [hq]
      · exact hb2 s (by omega)
theorem lnB_lt {w : Int} {l : List Int} {i : Nat} (h4 : l.length ≤ 4) : lnB w l i < 16 := by
  unfold lnB
  split
  · refine Nat.lt_of_lt_of_le (onB_lt _) ?_
    rw [List.length_map]
    exact Nat.pow_le_pow_right (n := 2) (by decide) (show _ ≤ 4 from h4)
  · omega
theorem hg_bit {h : Nat} (hh : h < 65536) {s : Nat} (hs : s < 16) : fx_and (fx_shr (h : Int) (s : Int)) 1 = bI (h.testBit s) := by
  rw [fx_shr_eq ⟨by omega, by omega⟩ (by omega), fx_and_1, Int.toNat_natCast, Nat.testBit_eq_decide_div_mod_eq]
  unfold bI
  have : ((h : Int) / ((2 ^ s : Nat) : Int)) % 2 = ((h / 2 ^ s % 2 : Nat) : Int) := by omega
  rw [this]
  by_cases hx : h / 2 ^ s % 2 = 1
  · rw [hx]
    rfl
  · rw [show h / 2 ^ s % 2 = 0 by omega]
    rfl
/-- hanging -/
theorem sp_hanging {M : fx_M} (Hp : fx_puz p) (ho : pz_ok Z) (hz : cz M p Z) (hR : Z.2.2.2.1[r]? = some R) (K : ∀ N h, lfr p M N → (∀ s : Nat, s < 16 → fx_and (fx_shr h (s : Int)) 1 = bI (hgs (lnB Z.1 R.2.2) s)) → Q (some (jI h)) N) : wc kc (d + 2) 76 [jR p, jI r] M Q := by
  obtain ⟨⟨k1, k2, k3, k4, k5, k6, k7, k8⟩, hr12⟩ := rule_in ho hR
  refine s76 Hp (hl_out Hp ho hR 4 0 M (by omega) hz (fun j hj => by omega) (fun N hN hb => ?_))
  refine hp_set Hp (b := lnB Z.1 R.2.2) (fun j hj => ⟨hb j hj, lnB_lt k6⟩) 16 0 0 (by omega) (by decide) (fun s hs => by omega) (fun h2 hh hbits => K N _ hN (fun s hs => ?_))
  rw [hg_bit hh hs, hbits s hs]
end HNG
