/-! Steps one after another: as a function; the reference's step, solve and lesson. -/
/-- the lines of a step -/
noncomputable def stT (Z : PZ) (S : Nat → Nat) : List Int := if (fSt Z S).1 < 3 then tRs Z S (rl Z (fSt Z S).2.1) (secR Z (fSt Z S).2.2.1) (fSt Z S).2.1 (fSt Z S).2.2.1 (fSt Z S).2.2.2.1 (fSt Z S).2.2.2.2 else (gOn Z 37 (s_only S (fSt Z S).2.2.2.1.toNat (fSt Z S).2.2.2.2)).2.2 ++ tDone [((fSt Z S).2.2.2.1, (fSt Z S).2.2.2.2)]
/-- all steps: the standing, how many of each kind, the lines -/
noncomputable def sRn (Z : PZ) : Nat → (Nat → Nat) → (Nat → Nat) × Nat × Nat × Nat × List Int
  | 0, S => (S, 0, 0, 0, [])
  | k + 1, S => if brk Z S ∨ (fSt Z S).1 = 0 then (S, 0, 0, 0, []) else ((sRn Z k (s_wo S (fSt Z S).2.2.2.1.toNat (fSt Z S).2.2.2.2)).1, (sRn Z k (s_wo S (fSt Z S).2.2.2.1.toNat (fSt Z S).2.2.2.2)).2.1 + (if (fSt Z S).1 = 1 then 1 else 0), (sRn Z k (s_wo S (fSt Z S).2.2.2.1.toNat (fSt Z S).2.2.2.2)).2.2.1 + (if (fSt Z S).1 = 2 then 1 else 0), (sRn Z k (s_wo S (fSt Z S).2.2.2.1.toNat (fSt Z S).2.2.2.2)).2.2.2.1 + (if (fSt Z S).1 = 3 then 1 else 0), stT Z S ++ (sRn Z k (s_wo S (fSt Z S).2.2.2.1.toNat (fSt Z S).2.2.2.2)).2.2.2.2)
/-- how it ends: broken 2, filled 1, stuck 0 -/
def endZ (Z : PZ) (S : Nat → Nat) : Int := if brk Z S then 2 else if cCh Z S < 0 then 1 else 0
theorem sRn_cnt {Z : PZ} : ∀ (k : Nat) (S : Nat → Nat), (sRn Z k S).2.1 ≤ k ∧ (sRn Z k S).2.2.1 ≤ k ∧ (sRn Z k S).2.2.2.1 ≤ k
  | 0, S => ⟨Nat.le_refl _, Nat.le_refl _, Nat.le_refl _⟩
  | k + 1, S => by
    have ih := sRn_cnt (Z := Z) k (s_wo S (fSt Z S).2.2.2.1.toNat (fSt Z S).2.2.2.2)
    rw [sRn]
    split
    · exact ⟨Nat.zero_le _, Nat.zero_le _, Nat.zero_le _⟩
    · refine ⟨?_, ?_, ?_⟩ <;> simp only <;> split <;> omega
theorem sLt_wo {Z : PZ} {S : Nat → Nat} {c y : Nat} (h : sLt Z S) : sLt Z (s_wo S c y) := fun k hk => by
  unfold s_wo
  split
  · exact Nat.lt_of_le_of_lt Nat.and_le_left (h k hk)
  · exact h k hk
section MSV
variable {kc : List va_E} {d : Nat} {Q : Option fx_V → fx_M → Prop} {Z : PZ} {S : Nat → Nat}
/-- what taking steps may change -/
def fTk (M N : fx_M) : Prop := ∀ b j, ¬ (155 ≤ b ∧ b ≤ 158) → ¬ (165 ≤ b ∧ b ≤ 166) → b ≠ 136 → ¬ (b = 133 ∧ (j = 5 ∨ j = 48 ∨ (51 ≤ j ∧ j ≤ 54) ∨ j = 56 ∨ j = 57 ∨ j = 59 ∨ j = 69)) → N b j = M b j
theorem fTk_tr {M N O : fx_M} (h1 : fTk M N) (h2 : fTk N O) : fTk M O := fun b j a1 a2 a3 a4 => (h2 b j a1 a2 a3 a4).trans (h1 b j a1 a2 a3 a4)
theorem fTk_Ty {M N : fx_M} (h : fTy M N) : fTk M N := fun b j h1 h2 h3 h4 => h b j h1 (by omega) h3 (by omega)
theorem fTk_rf {M : fx_M} : fTk M M := fun _ _ _ _ _ _ => rfl
theorem mz_Tk {M N : fx_M} (hz : mz M 0 Z) (h : fTk M N) : mz N 0 Z := mz_frM hz (fun b j h1 h2 => h b j (by omega) (by omega) (by omega) (by omega))
theorem mfrq_Tk {M N : fx_M} (h : fTk M N) : mfrq M N := fun b j h1 h2 h3 => by
  unfold msc at h1
  exact h b j (by omega) (by omega) h2 (by omega)
/-- a try as lines -/
theorem sp_sayTry (ho : pz_ok Z) (hS : sLt Z S) {M : fx_M} (hl : mli M) (hz : mz M 0 Z) (hm : mst' M Z S) {c y : Nat} (hc : (c : Int) < Z.1 * Z.2.1) (hy : (y : Int) < Z.2.2.1) (h51 : M 133 51 = (c : Int)) (h52 : M 133 52 = (y : Int)) (K : ∀ M', fTy M M' → mst' M' Z S → M' 133 56 = 0 → M' 133 51 = (c : Int) → M' 133 52 = (y : Int) → mlo M M' ((gOn Z 37 (s_only S c y)).2.2 ++ tDone [((c : Int), y)]) → Q none M') : wc kc (d + 8) 323 [jR 133] M Q := by
  have h9 := pz_n ho
  have h4 := ho.2.2.2.2.2.1
  refine s323 ?_
  rw [h51, h52]
  refine sp_keepStanding (fun M1 k1 k2 => s323_14 ⟨⟨by omega, by omega⟩, ?_⟩)
  have fu : ∀ b j, ¬ (b = 156 ∧ j = (c : Int)) → ¬ (b = 133 ∧ j = 56) → (fx_up (fx_up M1 156 (c : Int) (fx_shl 1 (y : Int))) 133 56 1) b j = M1 b j := fun b j h1 h2 => by rw [fx_up_ne h2, fx_up_ne h1]
  have m2 : mst' (fx_up (fx_up M1 156 (c : Int) (fx_shl 1 (y : Int))) 133 56 1) Z (s_only S c y) := fun k hk => by
    unfold s_only
    by_cases e : k = c
    · subst e
      rw [fx_up_na (by decide), fx_up_self, if_pos rfl, fx_shl_1 ⟨by omega, by omega⟩, Int.toNat_natCast]
    · rw [fu _ _ (by omega) (by omega), if_neg e, k2 _ _ (by decide)]
      exact hm k hk
  have l2 : mlo M (fx_up (fx_up M1 156 (c : Int) (fx_shl 1 (y : Int))) 133 56 1) [] := mlo_fr hl (by rw [fu _ _ (by omega) (by omega), k2 _ _ (by decide)]) (by rw [fu _ _ (by omega) (by omega), k2 _ _ (by decide)]) (fun j => by rw [fu _ _ (by omega) (by omega), k2 _ _ (by decide)])
  refine sp_mGoOn ho (p := 1) ⟨by omega, by omega⟩ (sLt_16 ho (sLt_only hS hy)) (mz_frM hz (fun b j h1 h2 => by rw [fu b j (by omega) (by omega), k2 b j (by omega)])) m2 (by rw [fx_up_self]) l2.ok (fun M3 f3 m3 g3 t3 o3 => s323_32 ?_)
  rw [if_pos rfl] at o3
  have l3 := mlo_tr hl l2 o3
  rw [List.nil_append] at l3
  have fv : ∀ b j, ¬ (b = 133 ∧ j = 56) → (fx_up M3 133 56 0) b j = M3 b j := fun b j hb => fx_up_ne hb
  refine sp_takeStanding (fun M4 t4 f4 => s323_42 ?_)
  have f04 : ∀ b j, ¬ (155 ≤ b ∧ b ≤ 158) → b ≠ 165 → b ≠ 136 → ¬ (b = 133 ∧ (j = 5 ∨ j = 48 ∨ (51 ≤ j ∧ j ≤ 54) ∨ j = 56 ∨ j = 57 ∨ j = 59)) → M4 b j = M b j := fun b j h1 h2 h3 h4 => by
    rw [f4 b j (by omega), fv b j (by omega), f3 b j h1 h3 (by omega), fu b j (by omega) (by omega), k2 b j h2]
  have m4 : mst' M4 Z S := fun k hk => by
    rw [t4 k (by omega), fv _ _ (by omega), f3 165 _ (by omega) (by decide) (by omega), fu _ _ (by omega) (by omega), k1 k (by omega)]
    exact hm k hk
  have l4 := mlo_0 (mlo_tr hl l3 (mlo_fr (N := M4) l3.ok (by rw [f4 _ _ (by decide), fv _ _ (by omega)]) (by rw [f4 _ _ (by decide), fv _ _ (by omega)]) (fun j => by rw [f4 _ _ (by decide), fv _ _ (by omega)])))
  have e56 : M4 133 56 = 0 := by rw [f4 _ _ (by decide), fx_up_self]
  have fw : ∀ b j, ¬ (b = 133 ∧ (j = 51 ∨ j = 52)) → (fx_up (fx_up M4 133 51 (c : Int)) 133 52 (y : Int)) b j = M4 b j := fun b j hb => by rw [fx_up_ne (by omega), fx_up_ne (by omega)]
  have l5 := mlo_0 (mlo_tr hl l4 (mlo_fr (N := fx_up (fx_up M4 133 51 (c : Int)) 133 52 (y : Int)) l4.ok (fw _ _ (by omega)) (fw _ _ (by omega)) (fun j => fw _ _ (by omega))))
  have t5 : fTy M (fx_up (fx_up M4 133 51 (c : Int)) 133 52 (y : Int)) := fun b j h1 h2 h3 h4 => by rw [fw b j (by omega)]; exact f04 b j h1 h2 h3 h4
  have m5 : mst' (fx_up (fx_up M4 133 51 (c : Int)) 133 52 (y : Int)) Z S := fun k hk => by rw [fw _ _ (by omega)]; exact m4 k hk
  have e7 : (fx_up (fx_up M4 133 51 (c : Int)) 133 52 (y : Int)) 133 57 = M4 133 57 := fw _ _ (by omega)
  rcases l5.ok.2 with ⟨h57, h3⟩ | h57
  · rw [e7] at h57
    rw [h57]
    refine ⟨⟨by omega, by omega⟩, fun _ => sp_sayByte l5.ok.1 (s323_66 (sp_sayLiteral ⟨by omega, by omega⟩ ⟨by omega, by omega⟩ (by omega) (m_ok_put l5.ok.1) (s323_73 ?_))), fun h => absurd rfl h⟩
    rw [if_pos rfl]
    have e1 : m_app (m_put (fx_up (fx_up M4 133 51 (c : Int)) 133 52 (y : Int)) 117) (lit 45 (c : Int) y) = m_app (fx_up (fx_up M4 133 51 (c : Int)) 133 52 (y : Int)) ([117] ++ lit 45 (c : Int) y) := rfl
    rw [e1]
    refine sp_endLine (m_ok_app l5.ok.1) (by rw [m_app_ne (by omega) (by decide), e7]; exact h57) (s323_77 ?_)
    rw [m_app_app]
    have et : [117] ++ lit 45 (c : Int) y ++ [59] = tDone [((c : Int), y)] := by
      unfold tDone
      simp
    rw [et]
    have hln : fLn (fx_up (fx_up M4 133 51 (c : Int)) 133 52 (y : Int)) _ := fLn_up (cs := tDone [((c : Int), y)]) (v := if 3000 < m_app (fx_up (fx_up M4 133 51 (c : Int)) 133 52 (y : Int)) (tDone [((c : Int), y)]) 133 5 then 1 else 0)
    refine K _ (fTy_tr t5 (fun b j h1 h2 h3 h4 => hln b j h3 (by omega))) (mst_Ln m5 hln) ?_ ?_ ?_ (mlo_tr hl l5 (mlo_line l5.ok (by rw [e7]; exact h57)))
    · rw [hln _ _ (by decide) (by omega), fw _ _ (by omega)]
      exact e56
    · rw [hln _ _ (by decide) (by omega), fx_up_nk (by decide), fx_up_self]
    · rw [hln _ _ (by decide) (by omega), fx_up_self]
  · rw [e7] at h57
    rw [h57]
    refine ⟨⟨by omega, by omega⟩, fun h => by omega, fun _ => K _ t5 m5 (by rw [fw _ _ (by omega)]; exact e56) (by rw [fx_up_nk (by decide), fx_up_self]) (by rw [fx_up_self]) ?_⟩
    refine ⟨l5.ok, fun h0 hle => ?_, fun _ _ => by rw [e7]; exact h57, fun _ => by rw [e7]; exact h57⟩
    rw [List.length_append] at hle
    have := (l5.ex h0 (by omega)).2
    rw [e7] at this
    omega
/-- how many steps of a kind -/
def sCt (x : (Nat → Nat) × Nat × Nat × Nat × List Int) (i : Nat) : Nat := if i = 1 then x.2.1 else if i = 2 then x.2.2.1 else x.2.2.2.1
theorem sRn_end {k : Nat} (h : brk Z S ∨ (fSt Z S).1 = 0) : sRn Z k S = (S, 0, 0, 0, []) := by
  cases k with
  | zero => rfl
  | succ k => rw [sRn, if_pos h]
theorem sRn_go {k : Nat} (h : ¬ (brk Z S ∨ (fSt Z S).1 = 0)) : (sRn Z (k + 1) S).1 = (sRn Z k (s_wo S (fSt Z S).2.2.2.1.toNat (fSt Z S).2.2.2.2)).1 ∧ (sRn Z (k + 1) S).2.2.2.2 = stT Z S ++ (sRn Z k (s_wo S (fSt Z S).2.2.2.1.toNat (fSt Z S).2.2.2.2)).2.2.2.2 ∧ ∀ i, 1 ≤ i → i ≤ 3 → sCt (sRn Z (k + 1) S) i = sCt (sRn Z k (s_wo S (fSt Z S).2.2.2.1.toNat (fSt Z S).2.2.2.2)) i + (if (fSt Z S).1 = i then 1 else 0) := by
  rw [sRn, if_neg h]
  refine ⟨rfl, rfl, fun i h1 h3 => ?_⟩
  have : i = 1 ∨ i = 2 ∨ i = 3 := by omega
  rcases this with rfl | rfl | rfl <;> simp [sCt]
theorem sLt_bit (ho : pz_ok Z) (h : sLt Z S) {c y : Nat} (hc : (c : Int) < Z.1 * Z.2.1) (hb : (S c).testBit y = true) : (y : Int) < Z.2.2.1 := by
  have h4 := ho.2.2.2.2.2.1
  refine Int.not_le.mp fun hle => ?_
  have h1 : S c < 2 ^ y := Nat.lt_of_lt_of_le (h c hc) (Nat.pow_le_pow_right (by decide) (by omega))
  rw [Nat.testBit_lt_two_pow h1] at hb
  cases hb
theorem mlo_more {M0 M : fx_M} {cs ds : List Int} (h0 : M0 133 57 = 0) (h : mlo M0 M cs) (h1 : M 133 57 = 1) : mlo M0 M (cs ++ ds) := by
  refine ⟨h.ok, fun _ hle => ?_, fun _ _ => h1, fun _ => h1⟩
  rw [List.length_append] at hle
  have := (h.ex h0 (by omega)).2
  omega
/-- what finding a step leaves behind -/
def fnd (Z : PZ) (S : Nat → Nat) (M : fx_M) : Prop := ((fSt Z S).1 ≠ 0 → M 133 51 = (fSt Z S).2.2.2.1 ∧ M 133 52 = ((fSt Z S).2.2.2.2 : Nat)) ∧ ((fSt Z S).1 = 1 ∨ (fSt Z S).1 = 2 → M 133 53 = ((fSt Z S).2.1 : Nat) ∧ M 133 54 = (fSt Z S).2.2.1 ∧ mjt M (jnC (rl Z (fSt Z S).2.1) (secR Z (fSt Z S).2.2.1)))
theorem tk_fin (ho : pz_ok Z) (hS : sLt Z S) {M : fx_M} (hz : mz M 0 Z) (hm : mst' M Z S) (K : Q none (fx_up M 133 69 (endZ Z S))) : wc kc (d + 9) 314 [jR 133] M (fun v M1 => wp kc (d + 10) 322 111 [some (jR 133), none, none] (v.toList ++ [jR 133]) M1 Q) := by
  have hS16 := sLt_16 ho hS
  have h9 := pz_n ho
  have hcb : -1 ≤ cCh Z S ∧ cCh Z S < ((0 + (Z.1 * Z.2.1).toNat : Nat) : Int) := cch_b _ 0 (-1) (by omega) (by omega)
  unfold endZ at K
  refine sp_canBe (d := d + 7) ho hz hm hS16 (fun hnb => s322_111 ⟨⟨by omega, by omega⟩, fun _ => sp_mChoice (d := d + 7) ho hz hm hS16 (s322_122 ⟨⟨by omega, by omega⟩, ?_⟩), fun h => by omega⟩) (fun hb => s322_111 ⟨⟨by omega, by omega⟩, fun h => absurd rfl h, fun _ => ?_⟩)
  · rw [if_neg hnb] at K
    exact K
  · rw [if_pos hb] at K
    exact K
/-- the loop of steps -/
theorem tk_loop (ho : pz_ok Z) {M0 : fx_M} (hl0 : mli M0) (h570 : M0 133 57 = 0) {p : Int} (hp : 0 ≤ p ∧ p ≤ 1) : ∀ (k : Nat) (S : Nat → Nat) (M : fx_M) (v2 : Int) (nn : Nat → Nat) (cs : List Int), totS S (Z.1 * Z.2.1).toNat < k → sLt Z S → fTk M0 M → mz M 0 Z → mst' M Z S → mlo M0 M cs → (∀ i : Nat, 1 ≤ i → i ≤ 3 → M 166 (i : Int) = (nn i : Nat)) → v2 = (if brk Z S then 0 else ((fSt Z S).1 : Int)) → (¬ brk Z S → fnd Z S M) → (∀ M', fTk M0 M' → mlo M0 M' (cs ++ if p = 1 then (sRn Z k S).2.2.2.2 else []) → (M' 133 57 = 0 → mst' M' Z (sRn Z k S).1 ∧ sLt Z (sRn Z k S).1 ∧ M' 133 69 = endZ Z (sRn Z k S).1 ∧ ∀ i : Nat, 1 ≤ i → i ≤ 3 → M' 166 (i : Int) = ((nn i + sCt (sRn Z k S) i : Nat) : Int)) → Q none M') → wp kc (d + 10) 322 36 [some (jR 133), some (jI p), some (jI v2)] [] M Q := by
  have h9 := pz_n ho
  intro k
  induction k with
  | zero =>
    intro S M v2 nn cs hk
    omega
  | succ k ih =>
    intro S M v2 nn cs hk hS hf hz hm hlo hn hv hfd K
    have hS16 := sLt_16 ho hS
    have fup : ∀ b j, ¬ (b = 133 ∧ j = 69) → (fx_up M 133 69 (endZ Z S)) b j = M b j := fun b j hb => fx_up_ne hb
    have tup : fTk M0 (fx_up M 133 69 (endZ Z S)) := fTk_tr hf (fun b j _ _ _ h => fup b j (by omega))
    have lup : mlo M (fx_up M 133 69 (endZ Z S)) [] := mlo_fr hlo.ok (fup _ _ (by omega)) (fup _ _ (by omega)) (fun j => fup _ _ (by omega))
    by_cases hb : brk Z S ∨ (fSt Z S).1 = 0
    · have v0 : v2 = 0 := by
        rw [hv]
        split
        · rfl
        · next hnb =>
          rcases hb with h | h
          · exact absurd h hnb
          · rw [h]
            rfl
      rw [sRn_end hb] at K
      subst v0
      refine s322_36 ⟨⟨by omega, by omega⟩, fun _ => tk_fin ho hS hz hm (K _ tup ?_ (fun _ => ⟨fun q hq => by rw [fup _ _ (by omega)]; exact hm q hq, hS, by rw [fx_up_self], fun i h1 h3 => ?_⟩)), fun h => by omega⟩
      · rw [show (if p = 1 then ([] : List Int) else []) = [] by split <;> rfl]
        exact mlo_tr hl0 hlo lup
      · rw [fup _ _ (by omega), hn i h1 h3]
        have : sCt (S, 0, 0, 0, []) i = 0 := by
          unfold sCt
          split
          · rfl
          · split <;> rfl
        rw [this]
        rfl
    · have hnb : ¬ brk Z S := fun h => hb (Or.inl h)
      have hf0 : (fSt Z S).1 ≠ 0 := fun h => hb (Or.inr h)
      obtain ⟨g1, g2⟩ := sRn_go (k := k) hb
      obtain ⟨g2, g3⟩ := g2
      obtain ⟨a1, a2, a3, a4, a5, a6, a7⟩ := fSt_in ho hf0
      rw [if_neg hnb] at hv
      obtain ⟨n1, n2⟩ := hfd hnb
      obtain ⟨b1, b2⟩ := n1 hf0
      have hmi := hlo.ok
      rcases hmi.2 with ⟨h57, h3000⟩ | h57
      · -- a step is taken
        have go : ∀ M2 cs2, fTk M0 M2 → mz M2 0 Z → mst' M2 Z S → M2 133 51 = (fSt Z S).2.2.2.1 → M2 133 52 = ((fSt Z S).2.2.2.2 : Nat) → (∀ j, M2 166 j = M 166 j) → mlo M0 M2 cs2 → (cs2 ++ if p = 1 then (sRn Z k (s_wo S (fSt Z S).2.2.2.1.toNat (fSt Z S).2.2.2.2)).2.2.2.2 else []) = (cs ++ if p = 1 then (sRn Z (k + 1) S).2.2.2.2 else []) → wc kc (d + 9) 318 [jR 133] M2 (fun v M1 => wp kc (d + 10) 322 77 [some (jR 133), some (jI p), some (jI v2)] (v.toList ++ []) M1 Q) := fun M2 cs2 c1 c2 c3 c4 c5 c6 c7 c8 => by
          obtain ⟨cn, hcn⟩ : ∃ cn : Nat, (fSt Z S).2.2.2.1 = (cn : Int) := ⟨(fSt Z S).2.2.2.1.toNat, by omega⟩
          rw [hcn, Int.toNat_natCast] at a5 c8 g1 g2 g3
          rw [hcn] at c4 a3
          refine sp_takeOut (d := d + 8) hS16 c3 a3 h9.2 a4 c4 c5 (fun M3 k1 k2 k3 => s322_77 ⟨⟨by omega, by omega⟩, ⟨by omega, by omega⟩, ?_⟩)
          have htot := totS_wo (S := S) a4 (hS16 cn a3) a5 (Z.1 * Z.2.1).toNat
          rw [if_pos (by omega)] at htot
          have fu4 : ∀ b j, ¬ (b = 166 ∧ j = v2) → (fx_up M3 166 v2 (M3 166 v2 + 1)) b j = M3 b j := fun b j hb => fx_up_ne hb
          have t4 : fTk M0 (fx_up M3 166 v2 (M3 166 v2 + 1)) := fTk_tr c1 (fun b j h1 h2 h3 h4 => by rw [fu4 b j (by omega), k1 b j (by omega) (by omega)])
          have z4 : mz (fx_up M3 166 v2 (M3 166 v2 + 1)) 0 Z := mz_Tk hz (fun b j h1 h2 h3 h4 => by rw [t4 b j h1 h2 h3 h4]; exact (hf b j h1 h2 h3 h4).symm)
          have m4 : mst' (fx_up M3 166 v2 (M3 166 v2 + 1)) Z (s_wo S cn (fSt Z S).2.2.2.2) := fun q hq => by
            rw [fu4 _ _ (by omega)]
            exact k2 q hq
          have l4 : mlo M0 (fx_up M3 166 v2 (M3 166 v2 + 1)) cs2 := mlo_0 (mlo_tr hl0 c7 (mlo_fr c7.ok (by rw [fu4 _ _ (by omega), k1 _ _ (by omega) (by omega)]) (by rw [fu4 _ _ (by omega), k1 _ _ (by omega) (by omega)]) (fun j => by rw [fu4 _ _ (by omega), k1 _ _ (by omega) (by omega)])))
          have n4 : ∀ i : Nat, 1 ≤ i → i ≤ 3 → (fx_up M3 166 v2 (M3 166 v2 + 1)) 166 (i : Int) = ((nn i + (if (fSt Z S).1 = i then 1 else 0) : Nat) : Int) := fun i i1 i3 => by
            by_cases e : (fSt Z S).1 = i
            · rw [if_pos e]
              have ev : v2 = (i : Int) := by omega
              rw [ev, fx_up_self, k1 _ _ (by omega) (by omega), c6, hn i i1 i3]
              omega
            · rw [if_neg e, fu4 _ _ (by omega), k1 _ _ (by omega) (by omega), c6, hn i i1 i3]
              rfl
          have s4 := sLt_wo (c := cn) (y := (fSt Z S).2.2.2.2) hS
          have KK : ∀ M', fTk M0 M' → mlo M0 M' (cs2 ++ if p = 1 then (sRn Z k (s_wo S cn (fSt Z S).2.2.2.2)).2.2.2.2 else []) → (M' 133 57 = 0 → mst' M' Z (sRn Z k (s_wo S cn (fSt Z S).2.2.2.2)).1 ∧ sLt Z (sRn Z k (s_wo S cn (fSt Z S).2.2.2.2)).1 ∧ M' 133 69 = endZ Z (sRn Z k (s_wo S cn (fSt Z S).2.2.2.2)).1 ∧ ∀ i : Nat, 1 ≤ i → i ≤ 3 → M' 166 (i : Int) = (((nn i + (if (fSt Z S).1 = i then 1 else 0)) + sCt (sRn Z k (s_wo S cn (fSt Z S).2.2.2.2)) i : Nat) : Int)) → Q none M' := fun M' e1 e2 e3 => by
            rw [c8] at e2
            refine K M' e1 e2 (fun h0 => ?_)
            obtain ⟨q1, q2, q3, q4⟩ := e3 h0
            rw [g1]
            exact ⟨q1, q2, q3, fun i i1 i3 => by rw [q4 i i1 i3, g3 i i1 i3]; omega⟩
          refine sp_canBe (d := d + 7) ho z4 m4 (sLt_16 ho s4) (fun hnb2 => s322_91 ⟨⟨by omega, by omega⟩, fun h => by omega, fun _ => ?_⟩) (fun hb2 => s322_91 ⟨⟨by omega, by omega⟩, fun _ => ?_, fun h => absurd rfl h⟩)
          · refine sp_mFindStep ho s4 l4.ok z4 m4 (fun M5 t5 m5 l5 _ x1 x2 => s322_98 ?_)
            refine ih _ M5 _ (fun i => nn i + (if (fSt Z S).1 = i then 1 else 0)) cs2 (by omega) s4 (fTk_tr t4 (fTk_Ty t5)) (mz_Ty z4 t5) m5 (mlo_0 (mlo_tr hl0 l4 l5)) (fun i i1 i3 => ?_) (by rw [if_neg hnb2]) (fun _ => ⟨x1, x2⟩) KK
            rw [t5 _ _ (by omega) (by decide) (by decide) (by omega)]
            exact n4 i i1 i3
          · exact ih _ _ _ (fun i => nn i + (if (fSt Z S).1 = i then 1 else 0)) cs2 (by omega) s4 t4 z4 m4 l4 n4 (by rw [if_pos hb2]) (fun h => absurd hb2 h) KK
        refine s322_36 ⟨⟨by omega, by omega⟩, fun h => by omega, fun _ => ⟨by rw [h57]; exact ⟨by omega, by omega⟩, fun h => absurd h57 h, fun _ => ⟨⟨by omega, by omega⟩, fun p0 => ⟨⟨by omega, by omega⟩, fun _ => ?_, fun h => absurd p0 h⟩, fun p1 => ⟨⟨by omega, by omega⟩, fun h3 => ⟨⟨by omega, by omega⟩, fun h => absurd h p1, fun _ => ⟨⟨by omega, by omega⟩, fun h => by omega, fun _ => ?_⟩⟩, fun h3 => ?_⟩⟩⟩⟩
        · exact go M cs hf hz hm b1 b2 (fun _ => rfl) hlo (by rw [if_neg (by omega), if_neg (by omega)])
        · have e3 : (fSt Z S).1 = 3 := by omega
          obtain ⟨cn, hcn⟩ : ∃ cn : Nat, (fSt Z S).2.2.2.1 = (cn : Int) := ⟨(fSt Z S).2.2.2.1.toNat, by omega⟩
          have hsy : ((fSt Z S).2.2.2.2 : Int) < Z.2.2.1 := sLt_bit ho hS (c := (fSt Z S).2.2.2.1.toNat) (by omega) a5
          refine sp_sayTry (d := d + 1) ho hS hmi hz hm (c := cn) (y := (fSt Z S).2.2.2.2) (by omega) hsy (by rw [b1, hcn]) b2 (fun M2 t2 m2 _ x1 x2 l2 => s322_73 ?_)
          refine go M2 _ (fTk_tr hf (fTk_Ty t2)) (mz_Ty hz t2) m2 (by rw [x1, hcn]) x2 (fun j => t2 _ _ (by omega) (by decide) (by decide) (by omega)) (mlo_tr hl0 hlo l2) ?_
          have est : stT Z S = (gOn Z 37 (s_only S cn (fSt Z S).2.2.2.2)).2.2 ++ tDone [((cn : Int), (fSt Z S).2.2.2.2)] := by
            unfold stT
            rw [if_neg (by omega), hcn, Int.toNat_natCast]
          rw [if_pos (by omega), if_pos (by omega), g2, est, List.append_assoc]
        · have e12 : (fSt Z S).1 = 1 ∨ (fSt Z S).1 = 2 := by omega
          obtain ⟨R, r1, r2, r3⟩ := a6 (by omega)
          obtain ⟨x3, x4, x5⟩ := n2 e12
          rw [rl_of r1] at x5
          refine sp_sayTaken (d := d + 4) hz ho hm hS16 (rule_in ho r1).1 (rule_in ho r1).2 r2 x5 b1 ⟨a2, a3⟩ b2 a4 x3 x4 hmi (fun M2 l2 f2 => s322_60 ⟨⟨by omega, by omega⟩, fun h => absurd h p1, fun _ => ⟨⟨by omega, by omega⟩, fun _ => ?_, fun h => by omega⟩⟩)
          refine go M2 _ (fTk_tr hf (fun b j h1 h2 h3 h4 => f2 b j h3 (by omega))) (mz_frM hz (fun b j h1 h2 => f2 b j (by omega) (by omega))) (fun q hq => by rw [f2 _ _ (by decide) (by omega)]; exact hm q hq) (by rw [f2 _ _ (by decide) (by omega)]; exact b1) (by rw [f2 _ _ (by decide) (by omega)]; exact b2) (fun j => f2 _ _ (by decide) (by omega)) (mlo_tr hl0 hlo l2) ?_
          have est : stT Z S = tRs Z S R (secR Z (fSt Z S).2.2.1) (fSt Z S).2.1 (fSt Z S).2.2.1 (fSt Z S).2.2.2.1 (fSt Z S).2.2.2.2 := by
            unfold stT
            rw [if_pos (by omega), rl_of r1]
          rw [if_pos (by omega), if_pos (by omega), g2, est, List.append_assoc]
      · refine s322_36 ⟨⟨by omega, by omega⟩, fun h => by omega, fun _ => ⟨by rw [h57]; exact ⟨by omega, by omega⟩, fun _ => tk_fin ho hS hz hm (K _ tup ?_ (fun h0 => ?_)), fun h => by omega⟩⟩
        · exact mlo_more h570 (mlo_0 (mlo_tr hl0 hlo lup)) (by rw [fup _ _ (by omega)]; exact h57)
        · rw [fup _ _ (by omega)] at h0
          omega
/-- the counts are cleared -/
theorem tk_zero {p : Int} {M0 : fx_M} (K : ∀ M', (∀ b j, b ≠ 166 → M' b j = M0 b j) → (∀ i : Nat, i < 4 → M' 166 (i : Int) = 0) → wc kc (d + 9) 314 [jR 133] M' (fun v M1 => wp kc (d + 10) 322 24 [some (jR 133), some (jI p), none] (v.toList ++ []) M1 Q)) : ∀ (t c : Nat) (M : fx_M), c + t = 4 → (∀ b j, b ≠ 166 → M b j = M0 b j) → (∀ i : Nat, i < c → M 166 (i : Int) = 0) → wp kc (d + 10) 322 2 [some (jR 133), some (jI p), some (jI c)] [] M Q := by
  intro t
  induction t with
  | zero =>
    intro c M h1 h2 h3
    exact s322_2 ⟨⟨by omega, by omega⟩, fun _ => K M h2 (fun i hi => h3 i (by omega)), fun h => by omega⟩
  | succ t ih =>
    intro c M h1 h2 h3
    refine s322_2 ⟨⟨by omega, by omega⟩, fun h => by omega, fun _ => ⟨⟨by omega, by omega⟩, ?_⟩⟩
    have := ih (c + 1) (fx_up M 166 (c : Int) 0) (by omega) (fun b j hb => by rw [fx_up_na hb]; exact h2 b j hb) (fun i hi => by
      by_cases e : i = c
      · rw [e, fx_up_self]
      · rw [fx_up_ne (by omega)]
        exact h3 i (by omega))
    rw [show ((c + 1 : Nat) : Int) = (c : Int) + 1 by omega] at this
    exact this
theorem sp_takeSteps (ho : pz_ok Z) (hS : sLt Z S) {M : fx_M} (hl : mli M) (h57 : M 133 57 = 0) (hz : mz M 0 Z) (hm : mst' M Z S) {p : Int} (hp : 0 ≤ p ∧ p ≤ 1) (K : ∀ M', fTk M M' → mlo M M' (if p = 1 then (sRn Z 37 S).2.2.2.2 else []) → (M' 133 57 = 0 → mst' M' Z (sRn Z 37 S).1 ∧ sLt Z (sRn Z 37 S).1 ∧ M' 133 69 = endZ Z (sRn Z 37 S).1 ∧ ∀ i : Nat, 1 ≤ i → i ≤ 3 → M' 166 (i : Int) = (sCt (sRn Z 37 S) i : Nat)) → Q none M') : wc kc (d + 10) 322 [jR 133, jI p] M Q := by
  have h9 := pz_n ho
  have ht := totS_le (S := S) (Z.1 * Z.2.1).toNat
  have hS16 := sLt_16 ho hS
  refine s322 (tk_zero (M0 := M) (fun M1 f1 n1 => ?_) 4 0 M rfl (fun _ _ _ => rfl) (fun i hi => by omega))
  have t1 : fTk M M1 := fun b j _ h2 _ _ => f1 b j (by omega)
  have z1 := mz_Tk hz t1
  have m1 : mst' M1 Z S := fun q hq => by
    rw [f1 _ _ (by decide)]
    exact hm q hq
  have l1 : mlo M M1 [] := mlo_fr hl (f1 _ _ (by decide)) (f1 _ _ (by decide)) (fun j => f1 _ _ (by decide))
  have KK : ∀ M', fTk M M' → mlo M M' ([] ++ if p = 1 then (sRn Z 37 S).2.2.2.2 else []) → (M' 133 57 = 0 → mst' M' Z (sRn Z 37 S).1 ∧ sLt Z (sRn Z 37 S).1 ∧ M' 133 69 = endZ Z (sRn Z 37 S).1 ∧ ∀ i : Nat, 1 ≤ i → i ≤ 3 → M' 166 (i : Int) = (((fun _ => 0) i + sCt (sRn Z 37 S) i : Nat) : Int)) → Q none M' := fun M' e1 e2 e3 => by
    rw [List.nil_append] at e2
    refine K M' e1 e2 (fun h0 => ?_)
    obtain ⟨q1, q2, q3, q4⟩ := e3 h0
    exact ⟨q1, q2, q3, fun i i1 i3 => by rw [q4 i i1 i3, Nat.zero_add]⟩
  refine sp_canBe (d := d + 7) ho z1 m1 hS16 (fun hnb => s322_24 ⟨⟨by omega, by omega⟩, fun h => by omega, fun _ => ?_⟩) (fun hb => s322_24 ⟨⟨by omega, by omega⟩, fun _ => ?_, fun h => absurd rfl h⟩)
  · refine sp_mFindStep ho hS l1.ok z1 m1 (fun M2 t2 m2 l2 _ x1 x2 => s322_31 ?_)
    refine tk_loop ho hl h57 hp 37 S M2 _ (fun _ => 0) [] (by omega) hS (fTk_tr t1 (fTk_Ty t2)) (mz_Ty z1 t2) m2 (mlo_0 (mlo_tr hl l1 l2)) (fun i i1 i3 => ?_) (by rw [if_neg hnb]) (fun _ => ⟨x1, x2⟩) KK
    rw [t2 _ _ (by omega) (by decide) (by decide) (by omega)]
    exact n1 i (by omega)
  · exact tk_loop ho hl h57 hp 37 S M1 _ (fun _ => 0) [] (by omega) hS t1 z1 m1 l1 (fun i i1 i3 => n1 i (by omega)) (by rw [if_pos hb]) (fun h => absurd hb h) KK
end MSV
