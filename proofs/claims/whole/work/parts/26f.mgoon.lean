/-! The reference: goOn, the cell of choice, leaf and end of a node, standings. -/
/-- what goOn may change -/
def fGo (M N : fx_M) : Prop := ∀ b j, ¬ (155 ≤ b ∧ b ≤ 158) → b ≠ 136 → ¬ (b = 133 ∧ (j = 5 ∨ j = 48 ∨ (51 ≤ j ∧ j ≤ 54) ∨ j = 57 ∨ j = 59)) → N b j = M b j
theorem fGo_tr {M N O : fx_M} (h1 : fGo M N) (h2 : fGo N O) : fGo M O := fun b j a1 a2 a3 => (h2 b j a1 a2 a3).trans (h1 b j a1 a2 a3)
theorem fGo_rf {M : fx_M} : fGo M M := fun _ _ _ _ _ => rfl
theorem fGo_54 {M N : fx_M} (h : f54 M N) : fGo M N := fun b j h1 h2 h3 => h b j (by omega) (by omega) (by omega) (by omega)
theorem mlo_54 {M N : fx_M} (hl : mli M) (h : f54 M N) : mlo M N [] := mlo_fr hl (h _ _ (by decide) (by decide) (by decide) (by omega)) (h _ _ (by decide) (by decide) (by decide) (by omega)) (fun j => h _ _ (by decide) (by decide) (by decide) (by omega))
theorem mz_frM {M N : fx_M} {u : Int} {Z : PZ} (h : mz M u Z) (hf : ∀ b j, 146 ≤ b → b ≤ 154 → N b j = M b j) : mz N u Z := by
  obtain ⟨h1, h2, h3, h4, h5, h6⟩ := h
  unfold mz
  rw [hf 146 _ (by decide) (by decide), hf 147 _ (by decide) (by decide), hf 148 _ (by decide) (by decide), hf 149 _ (by decide) (by decide)]
  refine ⟨h1, h2, h3, h4, fun r R hR => ?_, fun c hc => ?_⟩
  · rw [hf 150 _ (by decide) (by decide), hf 151 _ (by decide) (by decide), hf 152 _ (by decide) (by decide)]
    obtain ⟨a, b, c, e⟩ := h5 r R hR
    exact ⟨a, b, c, fun i x hx => by rw [hf 153 _ (by decide) (by decide)]; exact e i x hx⟩
  · rw [hf 154 _ (by decide) (by decide)]
    exact h6 c hc
theorem mz_Go {M N : fx_M} {u : Int} {Z : PZ} (h : mz M u Z) (hf : fGo M N) : mz N u Z := mz_frM h (fun b j h1 h2 => hf b j (by omega) (by omega) (by omega))
/-- the cell of choice among the cells from c on -/
def cch (S : Nat → Nat) : Nat → Nat → Int → Int
  | 0, _, b => b
  | t + 1, c, b => cch S t (c + 1) (if 1 < pop4 (S c) ∧ (b < 0 ∨ pop4 (S c) < pop4 (S b.toNat)) then (c : Int) else b)
def cCh (Z : PZ) (S : Nat → Nat) : Int := cch S (Z.1 * Z.2.1).toNat 0 (-1)
theorem cch_b {S : Nat → Nat} : ∀ (t c : Nat) (b : Int), -1 ≤ b → b < c → -1 ≤ cch S t c b ∧ cch S t c b < (c + t : Nat)
  | 0, c, b, h1, h2 => ⟨h1, by show b < ((c + 0 : Nat) : Int); omega⟩
  | t + 1, c, b, h1, h2 => by
    unfold cch
    split
    · have := cch_b (S := S) t (c + 1) (c : Int) (by omega) (by omega)
      omega
    · have := cch_b (S := S) t (c + 1) b h1 (by omega)
      omega
theorem cch_pos {S : Nat → Nat} : ∀ (t c : Nat) (b : Int), (0 ≤ b → 1 < pop4 (S b.toNat)) → 0 ≤ cch S t c b → 1 < pop4 (S (cch S t c b).toNat)
  | 0, c, b, h1, h2 => h1 h2
  | t + 1, c, b, h1, h2 => by
    unfold cch at h2 ⊢
    refine cch_pos t (c + 1) _ (fun h => ?_) h2
    split
    · next h3 => rw [Int.toNat_natCast]; exact h3.1
    · next h3 => rw [if_neg h3] at h; exact h1 h
theorem cch_ge {S : Nat → Nat} : ∀ (t c : Nat) (b : Int), 0 ≤ b → 0 ≤ cch S t c b
  | 0, c, b, h => h
  | t + 1, c, b, h => by
    unfold cch
    refine cch_ge t (c + 1) _ ?_
    split <;> omega
theorem cch_neg {S : Nat → Nat} : ∀ (t c : Nat) (b : Int), cch S t c b < 0 → b < 0 ∧ ∀ k, c ≤ k → k < c + t → pop4 (S k) ≤ 1
  | 0, c, b, h => ⟨h, fun k h1 h2 => by omega⟩
  | t + 1, c, b, h => by
    unfold cch at h
    have ih := cch_neg t (c + 1) _ h
    split at ih
    · omega
    · next h3 =>
      refine ⟨ih.1, fun k h1 h2 => ?_⟩
      by_cases e : k = c
      · rw [e]
        apply Classical.byContradiction
        intro h4
        exact h3 ⟨by omega, Or.inl ih.1⟩
      · exact ih.2 k (by omega) (by omega)
/-- each cell has one symbol at most -/
theorem cCh_neg {Z : PZ} {S : Nat → Nat} (h : cCh Z S < 0) : ∀ c : Nat, (c : Int) < Z.1 * Z.2.1 → pop4 (S c) ≤ 1 := fun c hc => (cch_neg _ _ _ h).2 c (by omega) (by omega)
def tLeaf (Z : PZ) (S : Nat → Nat) : List Int := [98] ++ (List.range (Z.1 * Z.2.1).toNat).flatMap (fun (c : Nat) => lit 45 (c : Int) (lowb (S c))) ++ [59]
def tDone (ch : List (Int × Nat)) : List Int := [117] ++ ch.flatMap (fun q => lit 45 q.1 q.2) ++ [59]
def tGvs (Z : PZ) : List Int := (List.range (Z.1 * Z.2.1).toNat).flatMap fun (c : Nat) => if gv Z c < 0 then [] else [103] ++ dgs (c : Int) ++ lit 43 (c : Int) (gv Z c).toNat ++ [59]
section MGO
variable {kc : List va_E} {d : Nat} {Q : Option fx_V → fx_M → Prop} {Z : PZ}
theorem go_loop (ho : pz_ok Z) {M0 : fx_M} (hl0 : mli M0) {p : Int} (hp : 0 ≤ p ∧ p ≤ 1) : ∀ (k : Nat) (S : Nat → Nat) (M : fx_M) (n : Nat) (cs : List Int), totS S (Z.1 * Z.2.1).toNat < k → (∀ c : Nat, (c : Int) < Z.1 * Z.2.1 → S c < 16) → mz M 0 Z → mst' M Z S → M 133 56 = p → M 133 59 = M0 133 59 + n → mlo M0 M cs → fGo M0 M → (∀ M', fGo M0 M' → mst' M' Z (gOn Z k S).1 → (∀ c : Nat, (c : Int) < Z.1 * Z.2.1 → (gOn Z k S).1 c < 16) → M' 133 59 = M0 133 59 + (n + (gOn Z k S).2.1 : Nat) → mlo M0 M' (cs ++ if p = 1 then (gOn Z k S).2.2 else []) → Q (some (jI (if brk Z (gOn Z k S).1 then 0 else 1))) M') → wp kc (d + 7) 313 0 [some (jR 133)] [] M Q := by
  have h9 := pz_n ho
  intro k
  induction k with
  | zero =>
    intro S M n cs hk
    omega
  | succ k ih =>
    intro S M n cs hk hS hz hm h56 h59 hlo hf K
    have hl := hlo.ok
    refine s313_0 (sp_canBe (d := d + 4) ho hz hm hS (fun hnb => s313_4 ⟨⟨by omega, by omega⟩, fun h => by omega, fun _ => ?_⟩) (fun hb => s313_4 ⟨⟨by omega, by omega⟩, fun _ => ?_, fun h => absurd rfl h⟩))
    · refine sp_findFirst ho hS hz hm (fun r R c y e hR M1 f1 j1 a51 a52 a53 a54 => s313_11 ?_) (fun e M1 f1 => s313_11 ?_)
      · obtain ⟨R', hR', hcb, hy4, hbt, hcl, hcm⟩ := fO1_in ho e
        rw [hR] at hR'
        cases hR'
        obtain ⟨cn, rfl⟩ : ∃ cn : Nat, c = (cn : Int) := ⟨c.toNat, by omega⟩
        rw [Int.toNat_natCast] at hbt
        have hgo : gOn Z (k + 1) S = ((gOn Z k (s_wo S cn y)).1, (gOn Z k (s_wo S cn y)).2.1 + 1, tRs Z S (rl Z r) none r 0 (cn : Int) y ++ (gOn Z k (s_wo S cn y)).2.2) := by
          rw [gOn, if_neg hnb, e]
          simp only [Int.toNat_natCast]
        rw [hgo] at K
        have hr12 := (rule_in ho hR).2
        have htot := totS_wo (S := S) hy4 (hS cn hcb.2) hbt (Z.1 * Z.2.1).toNat
        rw [if_pos (by omega)] at htot
        have z1 := mz_54 hz f1
        have m1 := mst_54 hm f1
        have l1 := mlo_0 (mlo_tr hl0 hlo (mlo_54 hl f1))
        have f01 := fGo_tr hf (fGo_54 f1)
        have e56 : M1 133 56 = p := by rw [f1 _ _ (by decide) (by decide) (by decide) (by omega)]; exact h56
        have e59 : M1 133 59 = M0 133 59 + n := by rw [f1 _ _ (by decide) (by decide) (by decide) (by omega)]; exact h59
        -- taken out, and on
        have go : ∀ M2 cs2, fGo M1 M2 → mz M2 0 Z → mst' M2 Z S → M2 133 51 = (cn : Int) → M2 133 52 = (y : Int) → M2 133 56 = p → M2 133 59 = M0 133 59 + n → mlo M0 M2 cs2 → (cs2 ++ if p = 1 then (gOn Z k (s_wo S cn y)).2.2 else []) = (cs ++ if p = 1 then tRs Z S (rl Z r) none r 0 (cn : Int) y ++ (gOn Z k (s_wo S cn y)).2.2 else []) → wc kc (d + 6) 318 [jR 133] M2 (fun v M1 => wp kc (d + 7) 313 29 [some (jR 133)] (v.toList ++ []) M1 Q) := fun M2 cs2 g1 g2 g3 g4 g5 g6 g7 g8 g9 => by
          refine sp_takeOut hS g3 hcb.2 h9.2 hy4 g4 g5 (fun M3 k1 k2 k3 => s313_29 ?_)
          have l3 := mlo_0 (mlo_tr hl0 g8 (mlo_fr (N := M3) g8.ok (k1 _ _ (by omega) (by omega)) (k1 _ _ (by omega) (by omega)) (fun j => k1 _ _ (by omega) (by omega))))
          refine ih (s_wo S cn y) M3 (n + 1) cs2 (by omega) (s_wo_16 hS) (mz_frM g2 (fun b j h1 h2 => k1 b j (by omega) (by omega))) k2 (by rw [k1 _ _ (by omega) (by omega)]; exact g6) (by rw [k3, g7]; omega) l3 (fGo_tr f01 (fGo_tr g1 (fun b j b1 b2 b3 => k1 b j (by omega) (by omega)))) (fun M' c1 c2 c3 c4 c5 => ?_)
          refine K M' c1 c2 c3 (by rw [c4]; show _ + ((n + 1 + (gOn Z k (s_wo S cn y)).2.1 : Nat) : Int) = _ + ((n + ((gOn Z k (s_wo S cn y)).2.1 + 1) : Nat) : Int); omega) ?_
          rw [g9] at c5
          exact c5
        refine ⟨⟨by omega, by omega⟩, fun h => by omega, fun _ => ⟨by rw [e56]; exact ⟨by omega, by omega⟩, fun h0 => ?_, fun hn0 => ?_⟩⟩
        · have p0 : p = 0 := by rw [← e56]; exact h0
          exact go M1 cs fGo_rf z1 m1 a51 a52 e56 e59 l1 (by rw [if_neg (by omega), if_neg (by omega)])
        · have p1 : p = 1 := by rw [e56] at hn0; omega
          refine sp_sayTaken z1 ho m1 hS (rule_in ho hR).1 hr12 (Or.inl ⟨by omega, by omega, rfl⟩) j1 a51 hcb a52 hy4 a53 a54 l1.ok (fun M2 b1 b2 => s313_25 ?_)
          have l2 := mlo_tr hl0 l1 b1
          refine go M2 _ (fun b j b1 b2' b3 => b2 b j b2' (by omega)) (mz_frM z1 (fun b j h1 h2 => b2 b j (by omega) (by omega))) (fun q hq => by rw [b2 _ _ (by decide) (by omega)]; exact m1 q hq) (by rw [b2 _ _ (by decide) (by omega)]; exact a51) (by rw [b2 _ _ (by decide) (by omega)]; exact a52) (by rw [b2 _ _ (by decide) (by omega)]; exact e56) (by rw [b2 _ _ (by decide) (by omega)]; exact e59) l2 ?_
          rw [if_pos p1, if_pos p1, rl_of hR, List.append_assoc]
          rfl
      · have hgo : gOn Z (k + 1) S = (S, 0, []) := by rw [gOn, if_neg hnb, e]
        rw [hgo] at K
        have z1 := mz_54 hz f1
        have m1 := mst_54 hm f1
        have l1 := mlo_0 (mlo_tr hl0 hlo (mlo_54 hl f1))
        refine ⟨⟨by omega, by omega⟩, fun _ => sp_canBe (d := d + 4) ho z1 m1 hS (fun hnb => s313_36 ⟨by omega, ?_⟩) (fun hb => absurd hb hnb), fun h => absurd rfl h⟩
        have := K M1 (fGo_tr hf (fGo_54 f1)) m1 hS (by rw [f1 _ _ (by decide) (by decide) (by decide) (by omega), h59]; simp) (by
          rw [show (if p = 1 then ([] : List Int) else []) = [] by split <;> rfl, List.append_nil]
          exact l1)
        rw [if_neg hnb] at this
        exact this
    · have hgo : gOn Z (k + 1) S = (S, 0, []) := by rw [gOn, if_pos hb]
      rw [hgo] at K
      refine sp_canBe (d := d + 4) ho hz hm hS (fun hnb => absurd hb hnb) (fun _ => s313_36 ⟨by omega, ?_⟩)
      have := K M hf hm hS (by rw [h59]; simp) (by
        rw [show (if p = 1 then ([] : List Int) else []) = [] by split <;> rfl, List.append_nil]
        exact hlo)
      rw [if_pos hb] at this
      exact this
theorem sp_mGoOn (ho : pz_ok Z) {S : Nat → Nat} {M : fx_M} {p : Int} (hp : 0 ≤ p ∧ p ≤ 1) (hS : ∀ c : Nat, (c : Int) < Z.1 * Z.2.1 → S c < 16) (hz : mz M 0 Z) (hm : mst' M Z S) (h56 : M 133 56 = p) (hl : mli M) (K : ∀ M', fGo M M' → mst' M' Z (gOn Z 37 S).1 → (∀ c : Nat, (c : Int) < Z.1 * Z.2.1 → (gOn Z 37 S).1 c < 16) → M' 133 59 = M 133 59 + ((gOn Z 37 S).2.1 : Nat) → mlo M M' (if p = 1 then (gOn Z 37 S).2.2 else []) → Q (some (jI (if brk Z (gOn Z 37 S).1 then 0 else 1))) M') : wc kc (d + 7) 313 [jR 133] M Q := by
  have h9 := pz_n ho
  have ht := totS_le (S := S) (Z.1 * Z.2.1).toNat
  have := go_loop (kc := kc) (d := d) (Q := Q) ho hl hp 37 S M 0 [] (by omega) hS hz hm h56 (by simp) (mlo_rf hl) fGo_rf (fun M' a1 a2 a3 a4 a5 => K M' a1 a2 a3 (by rw [a4]; simp) (by simpa using a5))
  exact wc_of this
end MGO
