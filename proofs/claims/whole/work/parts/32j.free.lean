/-! Free pages, in the class. -/
def ubit (x : Int) (i : Nat) : Bool := (x % 4294967296).toNat.testBit i
theorem ubit_bv (x : Int) (i : Nat) : ubit x i = (BitVec.ofInt 32 x).getLsbD i := by
  unfold ubit
  rw [← fx_tn32]
  rfl
theorem ubit_shl : ∀ c i : Fin 32, ubit (fx_shl 1 ((c : Nat) : Int)) (i : Nat) = decide (i = c) := by decide +kernel
theorem ubit_or (x y : Int) (i : Nat) : ubit (fx_or x y) i = (ubit x i || ubit y i) := by
  rw [ubit_bv, ubit_bv, ubit_bv, ← BitVec.getLsbD_or]
  unfold fx_or
  rw [← Int32.toInt_toBitVec, BitVec.ofInt_toInt, Int32.toBitVec_or, Int32.toBitVec_ofInt, Int32.toBitVec_ofInt]
theorem or_in32 (x y : Int) : fx_in32 (fx_or x y) := by
  unfold fx_or
  rw [← Int32.toInt_toBitVec]
  generalize (Int32.ofInt x ||| Int32.ofInt y).toBitVec = v
  have h1 := BitVec.toInt_lt (x := v)
  have h2 := BitVec.le_toInt (x := v)
  constructor <;> omega
theorem ubit_fx {x : Int} (hx : fx_in32 x) {c : Nat} (hc : c < 32) : fx_and (fx_shr x (c : Int)) 1 = bI (ubit x c) := by
  rw [fx_and_1, fx_shr_eq hx ⟨by omega, by omega⟩, Int.toNat_natCast]
  have e1 : (4294967296 : Int) = ((2 ^ c : Nat) : Int) * (2 * ((2 ^ (31 - c) : Nat) : Int)) := by
    have : (2 : Nat) ^ c * (2 * 2 ^ (31 - c)) = 4294967296 := by
      rw [← Nat.pow_succ', ← Nat.pow_add, show c + (31 - c).succ = 32 by omega]
    rw [show (4294967296 : Int) = ((4294967296 : Nat) : Int) from rfl, ← this, Int.natCast_mul, Int.natCast_mul] <;> rfl
  have hP : ((2 ^ c : Nat) : Int) ≠ 0 := by
    have := Nat.pow_pos (n := c) (show 0 < 2 by decide)
    omega
  have e2 : x / ((2 ^ c : Nat) : Int) % 2 = (x % 4294967296) / ((2 ^ c : Nat) : Int) % 2 := by
    have h := Int.emod_add_mul_ediv x 4294967296
    have h3 : x = x % 4294967296 + ((2 ^ c : Nat) : Int) * (2 * (((2 ^ (31 - c) : Nat) : Int) * (x / 4294967296))) := by
      rw [← Int.mul_assoc 2, ← Int.mul_assoc, ← e1]
      exact h.symm
    have h4 : x / ((2 ^ c : Nat) : Int) = x % 4294967296 / ((2 ^ c : Nat) : Int) + 2 * (((2 ^ (31 - c) : Nat) : Int) * (x / 4294967296)) := by
      rw [← Int.add_mul_ediv_left _ _ hP, ← h3]
    rw [h4, Int.add_mul_emod_self_left]
  have h0 : 0 ≤ x % 4294967296 := Int.emod_nonneg _ (by decide)
  rw [e2]
  unfold ubit bI
  obtain ⟨r, hr⟩ : ∃ r : Nat, x % 4294967296 = (r : Int) := ⟨(x % 4294967296).toNat, by omega⟩
  rw [hr, Int.toNat_natCast, Nat.testBit_eq_decide_div_mod_eq]
  have e5 : (r : Int) / ((2 ^ c : Nat) : Int) % 2 = ((r / 2 ^ c % 2 : Nat) : Int) := by
    rw [Int.natCast_emod, Int.natCast_ediv]
    rfl
  rw [e5]
  have h2 : r / 2 ^ c % 2 < 2 := Nat.mod_lt _ (by decide)
  by_cases h : r / 2 ^ c % 2 = 1
  · rw [h]
    rfl
  · have h0 : r / 2 ^ c % 2 = 0 := by omega
    rw [h0]
    rfl
theorem bRun_has {g : Int → Int} {p q : Int} : ∀ {n : Nat}, p ≤ q → q < p + (n : Int) → bFre g q = false → bRun g p n = false
  | 0, h1, h2, _ => by omega
  | n + 1, h1, h2, h3 => by
    rw [bRun]
    by_cases e : q = p + (n : Int)
    · rw [← e, h3, Bool.and_false]
    · rw [bRun_has h1 (by omega) h3, Bool.false_and]
theorem bRoo_over {g : Int → Int} {m : Nat} {u : Nat} {p : Int} (h : 32 < p + (m : Int)) : bRoo g m u p = -1 := by
  cases u with
  | zero => rfl
  | succ u => rw [bRoo, if_pos h]
theorem bRoo_skip {g : Int → Int} {m : Nat} {u : Nat} {p : Int} (h : bRun g p m = false) : bRoo g m (u + 1) p = bRoo g m u (p + 1) := by
  rw [bRoo]
  by_cases h1 : 32 < p + (m : Int)
  · rw [if_pos h1, bRoo_over (by omega)]
  · rw [if_neg h1, if_neg (by rw [h]; decide)]
theorem bRoo_skips {g : Int → Int} {m : Nat} {q : Int} (hq : bFre g q = false) : ∀ (k u : Nat) (p : Int), p + (k : Int) = q + 1 → q < p + (m : Int) → k ≤ u → bRoo g m u p = bRoo g m (u - k) (q + 1)
  | 0, u, p, h1, _, _ => by
    rw [show p = q + 1 by omega]
    rfl
  | k + 1, 0, p, _, _, h3 => by omega
  | k + 1, u + 1, p, h1, h2, h3 => by
    rw [bRoo_skip (bRun_has (by omega) h2 hq), show u + 1 - (k + 1) = u - k by omega]
    exact bRoo_skips hq k u (p + 1) (by omega) (by omega) (by omega)
section BFP
variable {kc : List va_E} {d : Nat} {Q : Option fx_V → fx_M → Prop} {g : Int → Int} {M : fx_M}
theorem fp_scan {m : Nat} (hm : 1 ≤ m ∧ m ≤ 200) {v : Int} (hv : fx_in32 v) (hu : ∀ p : Nat, 3 ≤ p → p < 32 → ubit v p = !(bFre g (p : Int))) (K : Q (some (jI (bRoo g m 30 3))) M) : ∀ (u p r : Nat), p + u = 32 → 3 + r ≤ p → r < m → bRun g ((p : Int) - r) r = true → bRoo g m (33 - (p - r)) ((p : Int) - r) = bRoo g m 30 3 → wp kc (d + 1) 192 55 [none, some (jI m), some (jI v), some (jI r), some (jI p)] [] M Q := by
  intro u
  induction u with
  | zero =>
    intro p r hp hr hrm _ e
    rw [bRoo_over (by omega)] at e
    rw [← e] at K
    exact s192_55 ⟨⟨by omega, by omega⟩, fun _ => K, fun h => by omega⟩
  | succ u ih =>
    intro p r hp hr hrm hrun e
    refine s192_55 ?_
    rw [ubit_fx hv (by omega), hu p (by omega) (by omega)]
    cases hf : bFre g (p : Int)
    · have e0 : (if bI (!false) = 0 then ((r : Int) + 1) else 0) = 0 := if_neg (by decide)
      rw [e0]
      have e2 := bRoo_skips (m := m) hf (r + 1) (33 - (p - r)) ((p : Int) - r) (by omega) (by omega) (by omega)
      rw [e2, show 33 - (p - r) - (r + 1) = 33 - (p + 1 - 0) by omega] at e
      have nx := ih (p + 1) 0 (by omega) (by omega) (by omega) rfl (by rw [show ((p + 1 : Nat) : Int) - ((0 : Nat) : Int) = (p : Int) + 1 by omega]; exact e)
      rw [show ((p + 1 : Nat) : Int) = (p : Int) + 1 by omega] at nx
      exact ⟨⟨by omega, by omega⟩, fun h => by omega, fun _ => ⟨⟨by decide, by decide⟩, ⟨⟨by omega, by omega⟩, ⟨by omega, by omega⟩⟩, fun _ => nx, fun h => by omega⟩⟩
    · have e0 : (if bI (!true) = 0 then ((r : Int) + 1) else 0) = (r : Int) + 1 := if_pos (by decide)
      rw [e0]
      have hrun2 : bRun g ((p : Int) - r) (r + 1) = true := by
        rw [bRun, hrun, show (p : Int) - r + r = p by omega, hf]
        rfl
      refine ⟨⟨by omega, by omega⟩, fun h => by omega, fun _ => ⟨⟨by decide, by decide⟩, ⟨⟨by omega, by omega⟩, ⟨by omega, by omega⟩⟩, fun hne => ?_, fun he => ?_⟩⟩
      · have nx := ih (p + 1) (r + 1) (by omega) (by omega) (by omega) (by rw [show ((p + 1 : Nat) : Int) - ((r + 1 : Nat) : Int) = (p : Int) - r by omega]; exact hrun2) (by rw [show ((p + 1 : Nat) : Int) - ((r + 1 : Nat) : Int) = (p : Int) - r by omega, show p + 1 - (r + 1) = p - r by omega]; exact e)
        rw [show ((p + 1 : Nat) : Int) = (p : Int) + 1 by omega, show ((r + 1 : Nat) : Int) = (r : Int) + 1 by omega] at nx
        exact nx
      · have hm1 : m = r + 1 := by omega
        subst hm1
        obtain ⟨w, hw⟩ : ∃ w, 33 - (p - r) = w + 1 := ⟨33 - (p - r) - 1, by omega⟩
        rw [hw, bRoo, if_neg (by omega), if_pos hrun2] at e
        rw [← e] at K
        rw [show (p : Int) - ((r + 1 : Nat) : Int) + 1 = (p : Int) - r by omega]
        exact K
theorem sp_freePages (hg : M 126 = g) (hb : bk_b g) (hH : bHs g) {m : Nat} (hm : 1 ≤ m ∧ m ≤ 200) (K : Q (some (jI (bRoo g m 30 3))) M) : wc kc (d + 3) 192 [jR 125, jI m] M Q := by
  have hr := bRt_b (g := g)
  have h0 := hb (bRt g) (by omega) (by omega)
  have h15 := hH.1
  have eN : bNE g = g (bRt g) := by
    unfold bNE
    rw [if_neg (by omega)]
  have z1 : ∀ (u i : Nat) (v : Int), (i : Int) + u = g (bRt g) → fx_in32 v → (∀ p : Nat, p < 32 → ubit v p = bUs g (p : Int) i) → wp kc (d + 3) 192 4 [some (jR 125), some (jI m), some (jI v), some (jI i), none] [] M Q := by
    intro u
    induction u with
    | zero =>
      intro i v hi hv hu
      refine s192_4 (sp_entries (d := d) hg hb (s192_9 ?_))
      rw [eN]
      refine ⟨⟨⟨by omega, by omega⟩, ⟨by omega, by omega⟩⟩, fun _ => fp_scan (d := d + 2) hm hv (fun p p3 p32 => ?_) K 29 3 0 (by omega) (by omega) (by omega) rfl rfl, fun h => by omega⟩
      rw [hu p p32]
      unfold bFre
      rw [decide_eq_true (show (3 : Int) ≤ p by omega), decide_eq_true (show (p : Int) ≤ 31 by omega), show (g (bRt g)).toNat = i by omega]
      cases bUs g (p : Int) i <;> rfl
    | succ u ih =>
      intro i v hi hv hu
      obtain ⟨a3, a1, a32, _⟩ := hH.2 i (by omega) (by omega)
      have z2 : ∀ (w j : Nat) (x : Int), (j : Int) + w = bPg g i → fx_in32 x → (∀ p : Nat, p < 32 → ubit x p = (bUs g (p : Int) i || (decide (bCh g i ≤ (p : Int)) && decide ((p : Int) < bCh g i + j)))) → wp kc (d + 3) 192 15 [some (jR 125), some (jI m), some (jI x), some (jI i), some (jI j)] [] M Q := by
        intro w
        induction w with
        | zero =>
          intro j x hj hx hux
          refine s192_15 (sp_pagesOf (d := d) hg hb ⟨by omega, by omega⟩ (s192_22 ⟨⟨⟨by omega, by omega⟩, ⟨by omega, by omega⟩⟩, fun _ => ?_, fun h => by omega⟩))
          have nx := ih (i + 1) x (by omega) hx (fun p hp => by
            rw [hux p hp, bUs, show bCh g i + (j : Int) = bCh g i + bPg g i by omega])
          rw [show ((i + 1 : Nat) : Int) = (i : Int) + 1 by omega] at nx
          exact nx
        | succ w ih2 =>
          intro j x hj hx hux
          refine s192_15 (sp_pagesOf (d := d) hg hb ⟨by omega, by omega⟩ (s192_22 ⟨⟨⟨by omega, by omega⟩, ⟨by omega, by omega⟩⟩, fun h => by omega, fun _ => sp_chainOf (d := d) hg hb ⟨by omega, by omega⟩ (s192_32 ?_)⟩))
          have nx := ih2 (j + 1) (fx_or x (fx_shl 1 (bCh g i + j))) (by omega) (or_in32 _ _) (fun p hp => by
            have hs := ubit_shl ⟨(bCh g i + j).toNat, by omega⟩ ⟨p, hp⟩
            rw [show (((bCh g i + j).toNat : Nat) : Int) = bCh g i + j by omega] at hs
            rw [ubit_or, hux p hp, hs, Bool.or_assoc]
            congr 1
            have e1 : decide ((⟨p, hp⟩ : Fin 32) = ⟨(bCh g i + j).toNat, by omega⟩) = decide ((p : Int) = bCh g i + j) := by
              refine decide_eq_decide.mpr ⟨fun h => ?_, fun h => Fin.ext ?_⟩
              · have := congrArg Fin.val h
                dsimp only at this
                omega
              · dsimp only
                omega
            rw [e1]
            by_cases c1 : bCh g i ≤ (p : Int)
            · rw [decide_eq_true c1, Bool.true_and, Bool.true_and, ← Bool.decide_or]
              exact decide_eq_decide.mpr ⟨fun h => by omega, fun h => by omega⟩
            · rw [decide_eq_false c1, Bool.false_and, Bool.false_and, Bool.false_or]
              exact decide_eq_false (by omega))
          rw [show ((j + 1 : Nat) : Int) = (j : Int) + 1 by omega] at nx
          exact nx
      refine s192_4 (sp_entries (d := d) hg hb (s192_9 ?_))
      rw [eN]
      refine ⟨⟨⟨by omega, by omega⟩, ⟨by omega, by omega⟩⟩, fun h => by omega, fun _ => z2 (bPg g i).toNat 0 v (by omega) hv (fun p hp => ?_)⟩
      rw [hu p hp]
      by_cases c1 : bCh g i ≤ (p : Int)
      · rw [decide_eq_false (show ¬ (p : Int) < bCh g i + ((0 : Nat) : Int) by omega), Bool.and_false, Bool.or_false]
      · rw [decide_eq_false c1, Bool.false_and, Bool.or_false]
  exact s192 (z1 (g (bRt g)).toNat 0 0 (by omega) ⟨by omega, by omega⟩ (fun p hp => by
    unfold ubit
    rw [bUs, show ((0 : Int) % 4294967296).toNat = 0 by rfl]
    exact Nat.zero_testBit p))
end BFP
