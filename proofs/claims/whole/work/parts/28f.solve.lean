/-! Steps one after another: as a function; the reference's step, solve and lesson. -/
/-- the lines of a step -/
noncomputable def stT (Z : PZ) (S : Nat → Nat) : List Int := if (fSt Z S).1 < 3 then tRs Z S (rl Z (fSt Z S).2.1) (secR Z (fSt Z S).2.2.1) (fSt Z S).2.1 (fSt Z S).2.2.1 (fSt Z S).2.2.2.1 (fSt Z S).2.2.2.2 else (gOn Z 37 (s_only S (fSt Z S).2.2.2.1.toNat (fSt Z S).2.2.2.2)).2.2 ++ tDone [((fSt Z S).2.2.2.1, (fSt Z S).2.2.2.2)]
/-- all steps: the standing, how many of each kind, the lines -/
noncomputable def sRn (Z : PZ) : Nat → (Nat → Nat) → (Nat → Nat) × Nat × Nat × Nat × List Int
  | 0, S => (S, 0, 0, 0, [])
  | k + 1, S => if brk Z S ∨ (fSt Z S).1 = 0 then (S, 0, 0, 0, []) else ((sRn Z k (s_wo S (fSt Z S).2.2.2.1.toNat (fSt Z S).2.2.2.2)).1, (sRn Z k (s_wo S (fSt Z S).2.2.2.1.toNat (fSt Z S).2.2.2.2)).2.1 + (if (fSt Z S).1 = 1 then 1 else 0), (sRn Z k (s_wo S (fSt Z S).2.2.2.1.toNat (fSt Z S).2.2.2.2)).2.2.1 + (if (fSt Z S).1 = 2 then 1 else 0), (sRn Z k (s_wo S (fSt Z S).2.2.2.1.toNat (fSt Z S).2.2.2.2)).2.2.2.1 + (if (fSt Z S).1 = 3 then 1 else 0), stT Z S ++ (sRn Z k (s_wo S (fSt Z S).2.2.2.1.toNat (fSt Z S).2.2.2.2)).2.2.2.2)
/-- how it ends: broken 2, filled 1, stuck 0 -/
def endS (Z : PZ) (S : Nat → Nat) : Int := if brk Z S then 2 else if cCh Z S < 0 then 1 else 0
theorem sRn_cnt {Z : PZ} : ∀ (k : Nat) (S : Nat → Nat), (sRn Z k S).2.1 ≤ k ∧ (sRn Z k S).2.2.1 ≤ k ∧ (sRn Z k S).2.2.2.1 ≤ k
  | 0, S => ⟨Nat.le_refl _, Nat.le_refl _, Nat.le_refl _⟩
  | k + 1, S => by
    have ih := sRn_cnt (Z := Z) k (s_wo S (fSt Z S).2.2.2.1.toNat (fSt Z S).2.2.2.2)
    rw [sRn]
    split
    · exact ⟨Nat.zero_le _, Nat.zero_le _, Nat.zero_le _⟩
    · refine ⟨?_, ?_, ?_⟩ <;> simp only <;> split <;> omega
theorem sLt_wo {Z : PZ} {S : Nat → Nat} {c y : Nat} (h : sLt Z S) : sLt Z (s_wo S c y) := fun k hk => by
  unfold s_wo
  split
  · exact Nat.lt_of_le_of_lt Nat.and_le_left (h k hk)
  · exact h k hk
section MSV
variable {kc : List va_E} {d : Nat} {Q : Option fx_V → fx_M → Prop} {Z : PZ} {S : Nat → Nat}
/-- what taking steps may change -/
def fTk (M N : fx_M) : Prop := ∀ b j, ¬ (155 ≤ b ∧ b ≤ 158) → ¬ (165 ≤ b ∧ b ≤ 166) → b ≠ 136 → ¬ (b = 133 ∧ (j = 5 ∨ j = 48 ∨ (51 ≤ j ∧ j ≤ 54) ∨ j = 56 ∨ j = 57 ∨ j = 59 ∨ j = 69)) → N b j = M b j
theorem fTk_tr {M N O : fx_M} (h1 : fTk M N) (h2 : fTk N O) : fTk M O := fun b j a1 a2 a3 a4 => (h2 b j a1 a2 a3 a4).trans (h1 b j a1 a2 a3 a4)
theorem fTk_Ty {M N : fx_M} (h : fTy M N) : fTk M N := fun b j h1 h2 h3 h4 => h b j h1 (by omega) h3 (by omega)
theorem fTk_rf {M : fx_M} : fTk M M := fun _ _ _ _ _ _ => rfl
theorem mz_Tk {M N : fx_M} (hz : mz M 0 Z) (h : fTk M N) : mz N 0 Z := mz_frM hz (fun b j h1 h2 => h b j (by omega) (by omega) (by omega) (by omega))
theorem mfrq_Tk {M N : fx_M} (h : fTk M N) : mfrq M N := fun b j h1 h2 h3 => by
  unfold msc at h1
  exact h b j (by omega) (by omega) h2 (by omega)
/-- a try as lines -/
theorem sp_sayTry (ho : pz_ok Z) (hS : sLt Z S) {M : fx_M} (hl : mli M) (hz : mz M 0 Z) (hm : mst' M Z S) {c y : Nat} (hc : (c : Int) < Z.1 * Z.2.1) (hy : (y : Int) < Z.2.2.1) (h51 : M 133 51 = (c : Int)) (h52 : M 133 52 = (y : Int)) (K : ∀ M', fTy M M' → mst' M' Z S → M' 133 56 = 0 → M' 133 51 = (c : Int) → M' 133 52 = (y : Int) → mlo M M' ((gOn Z 37 (s_only S c y)).2.2 ++ tDone [((c : Int), y)]) → Q none M') : wc kc (d + 8) 323 [jR 133] M Q := by
  have h9 := pz_n ho
  have h4 := ho.2.2.2.2.2.1
  refine s323 ?_
  rw [h51, h52]
  refine sp_keepStanding (fun M1 k1 k2 => s323_14 ⟨⟨by omega, by omega⟩, ?_⟩)
  have fu : ∀ b j, ¬ (b = 156 ∧ j = (c : Int)) → ¬ (b = 133 ∧ j = 56) → (fx_up (fx_up M1 156 (c : Int) (fx_shl 1 (y : Int))) 133 56 1) b j = M1 b j := fun b j h1 h2 => by rw [fx_up_ne h2, fx_up_ne h1]
  have m2 : mst' (fx_up (fx_up M1 156 (c : Int) (fx_shl 1 (y : Int))) 133 56 1) Z (s_only S c y) := fun k hk => by
    unfold s_only
    by_cases e : k = c
    · subst e
      rw [fx_up_na (by decide), fx_up_self, if_pos rfl, fx_shl_1 ⟨by omega, by omega⟩, Int.toNat_natCast]
    · rw [fu _ _ (by omega) (by omega), if_neg e, k2 _ _ (by decide)]
      exact hm k hk
  have l2 : mlo M (fx_up (fx_up M1 156 (c : Int) (fx_shl 1 (y : Int))) 133 56 1) [] := mlo_fr hl (by rw [fu _ _ (by omega) (by omega), k2 _ _ (by decide)]) (by rw [fu _ _ (by omega) (by omega), k2 _ _ (by decide)]) (fun j => by rw [fu _ _ (by omega) (by omega), k2 _ _ (by decide)])
  refine sp_mGoOn ho (p := 1) ⟨by omega, by omega⟩ (sLt_16 ho (sLt_only hS hy)) (mz_frM hz (fun b j h1 h2 => by rw [fu b j (by omega) (by omega), k2 b j (by omega)])) m2 (by rw [fx_up_self]) l2.ok (fun M3 f3 m3 g3 t3 o3 => s323_32 ?_)
  rw [if_pos rfl] at o3
  have l3 := mlo_tr hl l2 o3
  rw [List.nil_append] at l3
  have fv : ∀ b j, ¬ (b = 133 ∧ j = 56) → (fx_up M3 133 56 0) b j = M3 b j := fun b j hb => fx_up_ne hb
  refine sp_takeStanding (fun M4 t4 f4 => s323_42 ?_)
  have f04 : ∀ b j, ¬ (155 ≤ b ∧ b ≤ 158) → b ≠ 165 → b ≠ 136 → ¬ (b = 133 ∧ (j = 5 ∨ j = 48 ∨ (51 ≤ j ∧ j ≤ 54) ∨ j = 56 ∨ j = 57 ∨ j = 59)) → M4 b j = M b j := fun b j h1 h2 h3 h4 => by
    rw [f4 b j (by omega), fv b j (by omega), f3 b j h1 h3 (by omega), fu b j (by omega) (by omega), k2 b j h2]
  have m4 : mst' M4 Z S := fun k hk => by
    rw [t4 k (by omega), fv _ _ (by omega), f3 165 _ (by omega) (by decide) (by omega), fu _ _ (by omega) (by omega), k1 k (by omega)]
    exact hm k hk
  have l4 := mlo_0 (mlo_tr hl l3 (mlo_fr (N := M4) l3.ok (by rw [f4 _ _ (by decide), fv _ _ (by omega)]) (by rw [f4 _ _ (by decide), fv _ _ (by omega)]) (fun j => by rw [f4 _ _ (by decide), fv _ _ (by omega)])))
  have e56 : M4 133 56 = 0 := by rw [f4 _ _ (by decide), fx_up_self]
  have fw : ∀ b j, ¬ (b = 133 ∧ (j = 51 ∨ j = 52)) → (fx_up (fx_up M4 133 51 (c : Int)) 133 52 (y : Int)) b j = M4 b j := fun b j hb => by rw [fx_up_ne (by omega), fx_up_ne (by omega)]
  have l5 := mlo_0 (mlo_tr hl l4 (mlo_fr (N := fx_up (fx_up M4 133 51 (c : Int)) 133 52 (y : Int)) l4.ok (fw _ _ (by omega)) (fw _ _ (by omega)) (fun j => fw _ _ (by omega))))
  have t5 : fTy M (fx_up (fx_up M4 133 51 (c : Int)) 133 52 (y : Int)) := fun b j h1 h2 h3 h4 => by rw [fw b j (by omega)]; exact f04 b j h1 h2 h3 h4
  have m5 : mst' (fx_up (fx_up M4 133 51 (c : Int)) 133 52 (y : Int)) Z S := fun k hk => by rw [fw _ _ (by omega)]; exact m4 k hk
  have e7 : (fx_up (fx_up M4 133 51 (c : Int)) 133 52 (y : Int)) 133 57 = M4 133 57 := fw _ _ (by omega)
  rcases l5.ok.2 with ⟨h57, h3⟩ | h57
  · rw [e7] at h57
    rw [h57]
    refine ⟨⟨by omega, by omega⟩, fun _ => sp_sayByte l5.ok.1 (s323_66 (sp_sayLiteral ⟨by omega, by omega⟩ ⟨by omega, by omega⟩ (by omega) (m_ok_put l5.ok.1) (s323_73 ?_))), fun h => absurd rfl h⟩
    rw [if_pos rfl]
    have e1 : m_app (m_put (fx_up (fx_up M4 133 51 (c : Int)) 133 52 (y : Int)) 117) (lit 45 (c : Int) y) = m_app (fx_up (fx_up M4 133 51 (c : Int)) 133 52 (y : Int)) ([117] ++ lit 45 (c : Int) y) := rfl
    rw [e1]
    refine sp_endLine (m_ok_app l5.ok.1) (by rw [m_app_ne (by omega) (by decide), e7]; exact h57) (s323_77 ?_)
    rw [m_app_app]
    have et : [117] ++ lit 45 (c : Int) y ++ [59] = tDone [((c : Int), y)] := by
      unfold tDone
      simp
    rw [et]
    have hln : fLn (fx_up (fx_up M4 133 51 (c : Int)) 133 52 (y : Int)) _ := fLn_up (cs := tDone [((c : Int), y)]) (v := if 3000 < m_app (fx_up (fx_up M4 133 51 (c : Int)) 133 52 (y : Int)) (tDone [((c : Int), y)]) 133 5 then 1 else 0)
    refine K _ (fTy_tr t5 (fun b j h1 h2 h3 h4 => hln b j h3 (by omega))) (mst_Ln m5 hln) ?_ ?_ ?_ (mlo_tr hl l5 (mlo_line l5.ok (by rw [e7]; exact h57)))
    · rw [hln _ _ (by decide) (by omega), fw _ _ (by omega)]
      exact e56
    · rw [hln _ _ (by decide) (by omega), fx_up_nk (by decide), fx_up_self]
    · rw [hln _ _ (by decide) (by omega), fx_up_self]
  · rw [e7] at h57
    rw [h57]
    refine ⟨⟨by omega, by omega⟩, fun h => by omega, fun _ => K _ t5 m5 (by rw [fw _ _ (by omega)]; exact e56) (by rw [fx_up_nk (by decide), fx_up_self]) (by rw [fx_up_self]) ?_⟩
    refine ⟨l5.ok, fun h0 hle => ?_, fun _ _ => by rw [e7]; exact h57, fun _ => by rw [e7]; exact h57⟩
    rw [List.length_append] at hle
    have := (l5.ex h0 (by omega)).2
    rw [e7] at this
    omega
/-- the loop of steps -/
theorem tk_loop (ho : pz_ok Z) {M0 : fx_M} (hl0 : mli M0) (h570 : M0 133 57 = 0) {p : Int} (hp : 0 ≤ p ∧ p ≤ 1) : ∀ (k : Nat) (S : Nat → Nat) (M : fx_M) (v2 : Int) (n1 n2 n3 : Nat) (cs : List Int), totS S (Z.1 * Z.2.1).toNat < k → sLt Z S → fTk M0 M → mz M 0 Z → mst' M Z S → mlo M0 M (if p = 1 then cs else []) → M 166 1 = (n1 : Int) → M 166 2 = (n2 : Int) → M 166 3 = (n3 : Int) → n1 < 1000 ∧ n2 < 1000 ∧ n3 < 1000 → v2 = (if brk Z S then 0 else ((fSt Z S).1 : Int)) → (¬ brk Z S → (fSt Z S).1 ≠ 0 → M 133 51 = (fSt Z S).2.2.2.1 ∧ M 133 52 = ((fSt Z S).2.2.2.2 : Nat)) → (¬ brk Z S → (fSt Z S).1 = 1 ∨ (fSt Z S).1 = 2 → M 133 53 = ((fSt Z S).2.1 : Nat) ∧ M 133 54 = (fSt Z S).2.2.1 ∧ mjt M (jnC (rl Z (fSt Z S).2.1) (secR Z (fSt Z S).2.2.1))) → (∀ M', fTk M0 M' → mlo M0 M' (if p = 1 then cs ++ (sRn Z k S).2.2.2.2 else []) → (M' 133 57 = 0 → mst' M' Z (sRn Z k S).1 ∧ sLt Z (sRn Z k S).1 ∧ M' 133 69 = endS Z (sRn Z k S).1 ∧ M' 166 1 = ((n1 + (sRn Z k S).2.1 : Nat) : Int) ∧ M' 166 2 = ((n2 + (sRn Z k S).2.2.1 : Nat) : Int) ∧ M' 166 3 = ((n3 + (sRn Z k S).2.2.2.1 : Nat) : Int)) → Q none M') → wp kc (d + 10) 322 36 [some (jR 133), some (jI p), some (jI v2)] [] M Q := by
  sorry
end MSV
