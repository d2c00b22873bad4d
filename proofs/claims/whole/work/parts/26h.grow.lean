/-! The tree as a function; the reference's grow. -/
/-- the nodes behind a choice: how many, how deep, their lines -/
def vks (f : Nat → Nat × Nat × List Int) (m : Nat) : Nat → Nat × Nat × List Int
  | 0 => (0, 0, [])
  | t + 1 => if m.testBit (3 - t) = true then ((f (3 - t)).1 + (vks f m t).1, max (f (3 - t)).2.1 (vks f m t).2.1, (f (3 - t)).2.2 ++ (vks f m t).2.2) else vks f m t
/-- a node and all behind it -/
noncomputable def vis (Z : PZ) : Nat → (Nat → Nat) → List (Int × Nat) → Nat × Nat × List Int
  | 0, _, _ => (0, 0, [])
  | k + 1, S, ch => if brk Z (gOn Z 37 S).1 ∨ cCh Z (gOn Z 37 S).1 < 0 then (1, ch.length, (gOn Z 37 S).2.2 ++ (if brk Z (gOn Z 37 S).1 then [] else tLeaf Z (gOn Z 37 S).1) ++ tDone ch) else (1 + (vks (fun y => vis Z k (s_only (gOn Z 37 S).1 (cCh Z (gOn Z 37 S).1).toNat y) (ch ++ [(cCh Z (gOn Z 37 S).1, y)])) ((gOn Z 37 S).1 (cCh Z (gOn Z 37 S).1).toNat) 4).1, max ch.length (vks (fun y => vis Z k (s_only (gOn Z 37 S).1 (cCh Z (gOn Z 37 S).1).toNat y) (ch ++ [(cCh Z (gOn Z 37 S).1, y)])) ((gOn Z 37 S).1 (cCh Z (gOn Z 37 S).1).toNat) 4).2.1, (gOn Z 37 S).2.2 ++ (vks (fun y => vis Z k (s_only (gOn Z 37 S).1 (cCh Z (gOn Z 37 S).1).toNat y) (ch ++ [(cCh Z (gOn Z 37 S).1, y)])) ((gOn Z 37 S).1 (cCh Z (gOn Z 37 S).1).toNat) 4).2.2 ++ tDone ch)
def opC (S : Nat → Nat) : Nat → Nat
  | 0 => 0
  | n + 1 => opC S n + (if 1 < pop4 (S n) then 1 else 0)
theorem opC_le {S : Nat → Nat} : ∀ n, opC S n ≤ n
  | 0 => Nat.le_refl _
  | n + 1 => by
    have := opC_le (S := S) n
    unfold opC
    split <;> omega
theorem opC_mono {S T : Nat → Nat} : ∀ n, (∀ c, c < n → pop4 (T c) ≤ pop4 (S c)) → opC T n ≤ opC S n
  | 0, _ => Nat.le_refl _
  | n + 1, h => by
    have := opC_mono n (fun c hc => h c (by omega))
    have h2 := h n (by omega)
    unfold opC
    split <;> split <;> omega
theorem opC_only {S : Nat → Nat} {c y : Nat} (hy : y < 4) (hc : 1 < pop4 (S c)) : ∀ n, opC (s_only S c y) n + (if c < n then 1 else 0) = opC S n
  | 0 => by simp [opC]
  | n + 1 => by
    have ih := opC_only hy hc n
    have hp : pop4 (2 ^ y) = 1 := pop4_pow ⟨y, hy⟩
    by_cases e : n = c
    · subst e
      rw [if_neg (by omega)] at ih
      have e2 : s_only S n y n = 2 ^ y := by
        unfold s_only
        rw [if_pos rfl]
      rw [opC, opC, e2, hp, if_neg (by omega), if_pos (by omega), if_pos hc]
      omega
    · have e2 : s_only S c y n = S n := by
        unfold s_only
        rw [if_neg e]
      rw [opC, opC, e2]
      by_cases hcn : c < n
      · rw [if_pos hcn] at ih
        rw [if_pos (show c < n + 1 by omega)]
        omega
      · rw [if_neg hcn] at ih
        rw [if_neg (show ¬ c < n + 1 by omega)]
        omega
theorem opC_pos {S : Nat → Nat} {c : Nat} (hc : 1 < pop4 (S c)) : ∀ n, c < n → 1 ≤ opC S n
  | 0, h => by omega
  | n + 1, h => by
    unfold opC
    by_cases e : n = c
    · rw [e, if_pos hc]
      omega
    · have := opC_pos hc n (by omega)
      omega
theorem pop4_clr_le {m y : Nat} : pop4 (clr m y) ≤ pop4 m := by
  unfold pop4
  rw [← List.countP_eq_length_filter, ← List.countP_eq_length_filter]
  refine List.countP_mono_left (fun i _ h => ?_)
  unfold clr at h
  rw [Nat.testBit_and] at h
  exact (Bool.and_eq_true_iff.mp h).1
/-- going on takes symbols away and adds none -/
theorem gOn_le {Z : PZ} : ∀ (k : Nat) (S : Nat → Nat) (c : Nat), (gOn Z k S).1 c ≤ S c ∧ pop4 ((gOn Z k S).1 c) ≤ pop4 (S c)
  | 0, S, c => ⟨Nat.le_refl _, Nat.le_refl _⟩
  | k + 1, S, c => by
    rw [gOn]
    split
    · exact ⟨Nat.le_refl _, Nat.le_refl _⟩
    · split
      · exact ⟨Nat.le_refl _, Nat.le_refl _⟩
      · next r e y _ =>
        have ih := gOn_le (Z := Z) k (s_wo S e.toNat y) c
        have h2 : s_wo S e.toNat y c ≤ S c ∧ pop4 (s_wo S e.toNat y c) ≤ pop4 (S c) := by
          unfold s_wo
          split
          · exact ⟨Nat.and_le_left, pop4_clr_le⟩
          · exact ⟨Nat.le_refl _, Nat.le_refl _⟩
        exact ⟨Nat.le_trans ih.1 h2.1, Nat.le_trans ih.2 h2.2⟩
/-- within the symbols of the puzzle -/
def sLt (Z : PZ) (S : Nat → Nat) : Prop := ∀ c : Nat, (c : Int) < Z.1 * Z.2.1 → S c < 2 ^ Z.2.2.1.toNat
theorem sLt_16 {Z : PZ} (ho : pz_ok Z) {S : Nat → Nat} (h : sLt Z S) : ∀ c : Nat, (c : Int) < Z.1 * Z.2.1 → S c < 16 := fun c hc => by
  have h4 := ho.2.2.2.2.2.1
  exact Nat.lt_of_lt_of_le (h c hc) (Nat.pow_le_pow_right (n := 2) (j := 4) (by decide) (by omega))
theorem sLt_gOn {Z : PZ} {S : Nat → Nat} {k : Nat} (h : sLt Z S) : sLt Z (gOn Z k S).1 := fun c hc => Nat.lt_of_le_of_lt (gOn_le k S c).1 (h c hc)
theorem sLt_only {Z : PZ} {S : Nat → Nat} {c y : Nat} (h : sLt Z S) (hy : (y : Int) < Z.2.2.1) : sLt Z (s_only S c y) := fun k hk => by
  unfold s_only
  split
  · exact Nat.pow_lt_pow_right (by decide) (by omega)
  · exact h k hk
/-- no symbol of the set from y on -/
theorem vks_skip {f : Nat → Nat × Nat × List Int} {m : Nat} : ∀ (t y s : Nat), y + t = 4 → y ≤ s → s ≤ 4 → (∀ z, y ≤ z → z < s → m.testBit z = false) → vks f m t = vks f m (4 - s)
  | 0, y, s, h1, h2, h3, _ => by
    rw [show 4 - s = 0 by omega]
  | t + 1, y, s, h1, h2, h3, h => by
    by_cases e : s = y
    · rw [show 4 - s = t + 1 by omega]
    · have hb := h y (Nat.le_refl _) (by omega)
      rw [vks, show 3 - t = y by omega, hb, if_neg (by decide)]
      exact vks_skip t (y + 1) s (by omega) (by omega) h3 (fun z h4 h5 => h z (by omega) h5)
theorem vks_at {f : Nat → Nat × Nat × List Int} {m s : Nat} (hs : s < 4) (hb : m.testBit s = true) : vks f m (4 - s) = ((f s).1 + (vks f m (3 - s)).1, max (f s).2.1 (vks f m (3 - s)).2.1, (f s).2.2 ++ (vks f m (3 - s)).2.2) := by
  rw [show 4 - s = (3 - s) + 1 by omega, vks, show 3 - (3 - s) = s by omega, if_pos hb]
section MGR
variable {kc : List va_E} {d : Nat} {Z : PZ}
theorem ns_loop {y0 : Nat} {Q : Option fx_V → fx_M → Prop} (ho : pz_ok Z) {M : fx_M} {dp : Nat} {cc m : Nat} (hdp : dp ≤ 8) (hz : mz M 0 Z) (hcc : cc < 9) (h161 : M 161 (dp : Int) = (cc : Int)) (h160 : M 160 (9 * (dp : Int) + (cc : Int)) = (m : Int)) (hm : m < 2 ^ Z.2.2.1.toNat) (K1 : ∀ s : Nat, (s : Int) < Z.2.2.1 → m.testBit s = true → (∀ z, z < s → y0 ≤ z → m.testBit z = false) → y0 ≤ s → Q (some (jI s)) (fx_up M 162 (dp : Int) (s : Int))) (K0 : (∀ z, y0 ≤ z → m.testBit z = false) → ∀ v, Q (some (jI (-1))) (fx_up M 162 (dp : Int) v)) : ∀ (t y : Nat), (y : Int) + t = Z.2.2.1 → y0 ≤ y → (∀ z, y0 ≤ z → z < y → m.testBit z = false) → wp kc (d + 1) 389 9 [some (jR 133), some (jI dp), some (jI y)] [] M Q := by
  have h4 := ho.2.2.2.2.2.1
  have hm16 : m < 16 := Nat.lt_of_lt_of_le hm (Nat.pow_le_pow_right (n := 2) (j := 4) (by decide) (by omega))
  intro t
  induction t with
  | zero =>
    intro y hy hy0 hz0
    refine s389_9 ?_
    rw [hz.2.2.1]
    refine ⟨⟨⟨by omega, by omega⟩, ⟨by omega, by omega⟩⟩, fun _ => ⟨⟨by omega, by omega⟩, ⟨by omega, by omega⟩, ⟨by omega, by omega⟩, ?_⟩, fun h => by omega⟩
    rw [if_neg (by omega)]
    refine K0 (fun z hz1 => ?_) _
    by_cases e : z < y
    · exact hz0 z hz1 e
    · exact Nat.testBit_lt_two_pow (Nat.lt_of_lt_of_le hm (Nat.pow_le_pow_right (by decide) (by omega)))
  | succ t ih =>
    intro y hy hy0 hz0
    have hb := sm_bit ⟨m, hm16⟩ ⟨y, by omega⟩
    simp only at hb
    refine s389_9 ?_
    rw [hz.2.2.1, h161, h160, hb]
    refine ⟨⟨⟨by omega, by omega⟩, ⟨by omega, by omega⟩⟩, fun h => by omega, fun _ => ⟨⟨by omega, by omega⟩, ⟨by omega, by omega⟩, by split <;> exact ⟨by omega, by omega⟩, fun hn => ⟨⟨by omega, by omega⟩, ⟨by omega, by omega⟩, ⟨by omega, by omega⟩, ?_⟩, fun h0 => ?_⟩⟩
    · rw [if_pos (by omega)]
      have hbt : m.testBit y = true := by
        cases hx : m.testBit y with
        | true => rfl
        | false => rw [hx] at hn; simp at hn
      exact K1 y (by omega) hbt (fun z h1 h2 => hz0 z h2 h1) hy0
    · have hbt : m.testBit y = false := by
        cases hx : m.testBit y with
        | false => rfl
        | true => rw [hx] at h0; simp at h0
      have nx := ih (y + 1) (by omega) (by omega) (fun z h1 h2 => by
        by_cases e : z = y
        · rw [e]
          exact hbt
        · exact hz0 z h1 (by omega))
      rw [show ((y + 1 : Nat) : Int) = (y : Int) + 1 by omega] at nx
      exact nx
/-- the standing of the node again -/
theorem re_loop {Q : Option fx_V → fx_M → Prop} {M0 : fx_M} {dp : Nat} {s : Nat} {cc : Int} (hdp : dp ≤ 8) (hcc : 0 ≤ cc ∧ cc < 9) (h161 : M0 161 (dp : Int) = cc) (K : ∀ M', (∀ k : Nat, k < 9 → M' 156 (k : Int) = if (k : Int) = cc then fx_shl 1 (s : Int) else M0 160 (9 * (dp : Int) + k)) → M' 163 (dp : Int) = cc → M' 164 (dp : Int) = (s : Int) → (∀ b j, b ≠ 156 → ¬ (163 ≤ b ∧ b ≤ 164 ∧ j = (dp : Int)) → M' b j = M0 b j) → wc kc d 386 [jR 133, jI ((dp : Int) + 1)] M' (fun v M1 => wp kc (d + 1) 384 158 [some (jR 133), none, some (jI dp), none, none] (v.toList ++ []) M1 Q)) : ∀ (t k : Nat) (M : fx_M), k + t = 9 → (∀ i : Nat, i < k → M 156 (i : Int) = M0 160 (9 * (dp : Int) + i)) → (∀ b j, b ≠ 156 → M b j = M0 b j) → wp kc (d + 1) 384 86 [some (jR 133), none, some (jI dp), some (jI s), some (jI k)] [] M Q := by
  intro t
  induction t with
  | zero =>
    intro k M hk h1 h2
    refine s384_86 ?_
    rw [h2 161 _ (by decide), h161]
    refine ⟨⟨by omega, by omega⟩, fun _ => ⟨⟨by omega, by omega⟩, hcc, ⟨by omega, by omega⟩, ⟨by omega, by omega⟩, ⟨by omega, by omega⟩, K _ (fun i hi => ?_) ?_ ?_ (fun b j b1 b2 => ?_)⟩, fun h => by omega⟩
    · rw [fx_up_na (by decide), fx_up_na (by decide)]
      by_cases e : (i : Int) = cc
      · rw [if_pos e, e, fx_up_self]
      · rw [if_neg e, fx_up_nk e]
        exact h1 i (by omega)
    · rw [fx_up_na (by decide), fx_up_self]
    · rw [fx_up_self]
    · rw [fx_up_ne (by omega), fx_up_ne (by omega), fx_up_na b1]
      exact h2 b j b1
  | succ t ih =>
    intro k M hk h1 h2
    refine s384_86 ⟨⟨by omega, by omega⟩, fun h => by omega, fun _ => ⟨⟨by omega, by omega⟩, ⟨by omega, by omega⟩, ?_⟩⟩
    have nx := ih (k + 1) (fx_up M 156 (k : Int) (M 160 (9 * (dp : Int) + k))) (by omega) (fun i hi => by
      by_cases e : i = k
      · subst e
        rw [fx_up_self, h2 _ _ (by decide)]
      · rw [fx_up_nk (by omega)]
        exact h1 i (by omega)) (fun b j hb => by rw [fx_up_na hb]; exact h2 b j hb)
    rw [show ((k + 1 : Nat) : Int) = (k : Int) + 1 by omega] at nx
    exact nx
theorem gr_end {Q : Option fx_V → fx_M → Prop} {M : fx_M} {v2 : Int} (hv : -1 ≤ v2 ∧ v2 ≤ 10) (h57 : M 133 57 = 1) (K : Q none M) : wp kc (d + 1) 384 51 [some (jR 133), none, some (jI v2), none, none] [] M Q :=
  s384_51 ⟨⟨by omega, by omega⟩, fun _ => K, fun _ => ⟨by rw [h57]; exact ⟨by omega, by omega⟩, fun _ => K, fun h => by omega⟩⟩
end MGR
