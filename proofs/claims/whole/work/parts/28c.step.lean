/-! The reference's findTry and findStep. -/
section MTR
variable {kc : List va_E} {d : Nat} {Q : Option fx_V → fx_M → Prop} {Z : PZ} {S : Nat → Nat}
theorem ft_in (ho : pz_ok Z) (hS : sLt Z S) {M0 : fx_M} (hl0 : mli M0) {c : Nat} (hc : (c : Int) < Z.1 * Z.2.1) (K1 : ∀ y, fTr Z S (4 * (Z.1 * Z.2.1).toNat) 0 = some (c, y) → ∀ M', fTy M0 M' → mst' M' Z S → mlo M0 M' [] → M' 133 56 = 0 → M' 133 51 = (c : Int) → M' 133 52 = (y : Int) → Q (some (jI 1)) M') (K0 : fTr Z S (4 * (Z.1 * Z.2.1).toNat) 0 = fTr Z S (4 * ((Z.1 * Z.2.1).toNat - (c + 1))) (4 * (c + 1)) → ∀ M', fTy M0 M' → mst' M' Z S → (∀ k : Nat, (k : Int) < Z.1 * Z.2.1 → M' 165 (k : Int) = (S k : Nat)) → M' 133 56 = 0 → mlo M0 M' [] → wp kc (d + 8) 311 6 [some (jR 133), some (jI ((c : Int) + 1)), none, none] [] M' Q) : ∀ (t s : Nat) (M : fx_M), (s : Int) + t = Z.2.2.1 → fTy M0 M → mz M 0 Z → mst' M Z S → (∀ k : Nat, (k : Int) < Z.1 * Z.2.1 → M 165 (k : Int) = (S k : Nat)) → M 133 56 = 0 → mlo M0 M [] → fTr Z S (4 * (Z.1 * Z.2.1).toNat) 0 = fTr Z S (4 * ((Z.1 * Z.2.1).toNat - (c + 1)) + (4 - s)) (4 * c + s) → wp kc (d + 8) 311 16 [some (jR 133), some (jI c), some (jI s), none] [] M Q := by
  have h9 := pz_n ho
  have h4 := ho.2.2.2.2.2.1
  have hS16 := sLt_16 ho hS
  have h16 := hS16 c hc
  have hpc := pop4_le (S c)
  -- no symbol is left in this cell
  have none' : ∀ (s : Nat) (M : fx_M), s ≤ 4 → (∀ z, s ≤ z → z < 4 → ¬ tryP Z S c z) → fTy M0 M → mst' M Z S → (∀ k : Nat, (k : Int) < Z.1 * Z.2.1 → M 165 (k : Int) = (S k : Nat)) → M 133 56 = 0 → mlo M0 M [] → fTr Z S (4 * (Z.1 * Z.2.1).toNat) 0 = fTr Z S (4 * ((Z.1 * Z.2.1).toNat - (c + 1)) + (4 - s)) (4 * c + s) → wp kc (d + 8) 311 6 [some (jR 133), some (jI ((c : Int) + 1)), none, none] [] M Q := fun s M hs4 hno hf hm h165 h56 hlo he => K0 (by rw [he]; exact fTr_skip (4 - s) s _ (by omega) hno) M hf hm h165 h56 hlo
  intro t
  induction t with
  | zero =>
    intro s M hs hf hz hm h165 h56 hlo he
    refine s311_16 ?_
    rw [hz.2.2.1]
    refine ⟨⟨⟨by omega, by omega⟩, ⟨by omega, by omega⟩⟩, fun _ => none' s M (by omega) (fun z h1 h2 hp => ?_) hf hm h165 h56 hlo he, fun h => by omega⟩
    have := bit_lt (hS c hc) hp.1
    omega
  | succ t ih =>
    intro s M hs hf hz hm h165 h56 hlo he
    refine s311_16 ?_
    rw [hz.2.2.1, h165 c hc]
    refine ⟨⟨⟨by omega, by omega⟩, ⟨by omega, by omega⟩⟩, fun h => by omega, fun _ => ⟨⟨by omega, by omega⟩, sp_countOf h16 (s311_35 ?_)⟩⟩
    rw [h165 c hc]
    have hb := sm_bit ⟨S c, h16⟩ ⟨s, by omega⟩
    simp only at hb
    rw [hb]
    refine ⟨⟨by omega, by omega⟩, fun hle => none' s M (by omega) (fun z h1 h2 hp => by have := hp.2.1; omega) hf hm h165 h56 hlo he, fun hgt => ⟨⟨by omega, by omega⟩, by split <;> exact ⟨by omega, by omega⟩, fun hbit => ⟨⟨by omega, by omega⟩, ?_⟩, fun h0 => ?_⟩⟩
    · have hbt : (S c).testBit s = true := by
        cases hx : (S c).testBit s with
        | true => rfl
        | false => rw [hx] at hbit; simp at hbit
      have fu : ∀ b j, ¬ (b = 156 ∧ j = (c : Int)) → (fx_up M 156 (c : Int) (fx_shl 1 (s : Int))) b j = M b j := fun b j hb => fx_up_ne hb
      have m1 : mst' (fx_up M 156 (c : Int) (fx_shl 1 (s : Int))) Z (s_only S c s) := fun k hk => by
        unfold s_only
        by_cases e : k = c
        · subst e
          rw [fx_up_self, if_pos rfl, fx_shl_1 ⟨by omega, by omega⟩, Int.toNat_natCast]
        · rw [fu _ _ (by omega), if_neg e]
          exact hm k hk
      have l1 := mlo_0 (mlo_tr hl0 hlo (mlo_fr (N := fx_up M 156 (c : Int) (fx_shl 1 (s : Int))) hlo.ok (fu _ _ (by omega)) (fu _ _ (by omega)) (fun j => fu _ _ (by omega))))
      refine sp_mGoOn ho (p := 0) ⟨by omega, by omega⟩ (sLt_16 ho (sLt_only hS (show (s : Int) < Z.2.2.1 by omega))) (mz_frM hz (fun b j h1 h2 => fu b j (by omega))) m1 (by rw [fu _ _ (by omega)]; exact h56) l1.ok (fun M2 f2 m2 g2 t2 o2 => s311_68 ?_)
      rw [if_neg (by decide)] at o2
      have l2 := mlo_0 (mlo_tr hl0 l1 o2)
      refine sp_takeStanding (fun M3 k1 k2 => s311_73 ?_)
      have f02 : ∀ b j, ¬ (155 ≤ b ∧ b ≤ 158) → b ≠ 136 → ¬ (b = 133 ∧ (j = 5 ∨ j = 48 ∨ (51 ≤ j ∧ j ≤ 54) ∨ j = 57 ∨ j = 59)) → M3 b j = M b j := fun b j h1 h2 h3 => by rw [k2 b j (by omega), f2 b j h1 h2 h3, fu b j (by omega)]
      have f3 : fTy M0 M3 := fTy_tr hf (fun b j h1 h2 h3 h4 => f02 b j h1 h3 (by omega))
      have m3 : mst' M3 Z S := fun k hk => by
        rw [k1 k (by omega), f2 165 _ (by omega) (by decide) (by omega), fu _ _ (by omega)]
        exact h165 k hk
      have l3 := mlo_0 (mlo_tr hl0 l2 (mlo_fr (N := M3) l2.ok (k2 _ _ (by decide)) (k2 _ _ (by decide)) (fun j => k2 _ _ (by decide))))
      have hst := fTr_step (Z := Z) (S := S) (t := 4 * ((Z.1 * Z.2.1).toNat - (c + 1)) + (4 - s - 1)) (i := 4 * c + s)
      rw [show (4 * c + s) / 4 = c by omega, show (4 * c + s) % 4 = s by omega] at hst
      rw [show 4 * ((Z.1 * Z.2.1).toNat - (c + 1)) + (4 - s) = 4 * ((Z.1 * Z.2.1).toNat - (c + 1)) + (4 - s - 1) + 1 by omega] at he
      by_cases hbk : brk Z (gOn Z 37 (s_only S c s)).1
      · rw [if_pos hbk]
        refine ⟨⟨by omega, by omega⟩, fun _ => ?_, fun h => absurd rfl h⟩
        have fu2 : ∀ b j, ¬ (b = 133 ∧ (j = 51 ∨ j = 52)) → (fx_up (fx_up M3 133 51 (c : Int)) 133 52 (s : Int)) b j = M3 b j := fun b j hb => by rw [fx_up_ne (by omega), fx_up_ne (by omega)]
        refine K1 s (by rw [he]; exact hst.1 ⟨hbt, by omega, hbk⟩) _ (fTy_tr f3 (fun b j h1 h2 h3 h4 => fu2 b j (by omega))) (fun k hk => by rw [fu2 _ _ (by omega)]; exact m3 k hk) ?_ (by rw [fu2 _ _ (by omega), f02 _ _ (by omega) (by decide) (by omega)]; exact h56) (by rw [fx_up_nk (by decide), fx_up_self]) (by rw [fx_up_self])
        exact mlo_0 (mlo_tr hl0 l3 (mlo_fr l3.ok (fu2 _ _ (by omega)) (fu2 _ _ (by omega)) (fun j => fu2 _ _ (by omega))))
      · rw [if_neg hbk]
        refine ⟨⟨by omega, by omega⟩, fun h => by omega, fun _ => ?_⟩
        have nx := ih (s + 1) M3 (by omega) f3 (mz_Ty (mz_Ty hz fTy_rf) (fun b j h1 h2 h3 h4 => f02 b j h1 h3 (by omega))) m3 (fun k hk => by rw [f02 _ _ (by omega) (by decide) (by omega)]; exact h165 k hk) (by rw [f02 _ _ (by omega) (by decide) (by omega)]; exact h56) l3 (by
          rw [he, hst.2 (fun hp => hbk hp.2.2), show 4 - (s + 1) = 4 - s - 1 by omega, show 4 * c + (s + 1) = 4 * c + s + 1 by omega])
        rw [show ((s + 1 : Nat) : Int) = (s : Int) + 1 by omega] at nx
        exact nx
    · have hbt : ¬ (S c).testBit s = true := fun hx => by rw [if_pos hx] at h0; omega
      have hst := fTr_step (Z := Z) (S := S) (t := 4 * ((Z.1 * Z.2.1).toNat - (c + 1)) + (4 - s - 1)) (i := 4 * c + s)
      rw [show (4 * c + s) / 4 = c by omega, show (4 * c + s) % 4 = s by omega] at hst
      rw [show 4 * ((Z.1 * Z.2.1).toNat - (c + 1)) + (4 - s) = 4 * ((Z.1 * Z.2.1).toNat - (c + 1)) + (4 - s - 1) + 1 by omega] at he
      have nx := ih (s + 1) M (by omega) hf hz hm h165 h56 hlo (by
        rw [he, hst.2 (fun hp => hbt hp.1), show 4 - (s + 1) = 4 - s - 1 by omega, show 4 * c + (s + 1) = 4 * c + s + 1 by omega])
      rw [show ((s + 1 : Nat) : Int) = (s : Int) + 1 by omega] at nx
      exact nx
theorem ft_out (ho : pz_ok Z) (hS : sLt Z S) {M0 : fx_M} (hl0 : mli M0) (hz0 : mz M0 0 Z) (K1 : ∀ c y, fTr Z S (4 * (Z.1 * Z.2.1).toNat) 0 = some (c, y) → ∀ M', fTy M0 M' → mst' M' Z S → mlo M0 M' [] → M' 133 56 = 0 → M' 133 51 = (c : Int) → M' 133 52 = (y : Int) → Q (some (jI 1)) M') (K0 : fTr Z S (4 * (Z.1 * Z.2.1).toNat) 0 = none → ∀ M', fTy M0 M' → mst' M' Z S → mlo M0 M' [] → M' 133 56 = 0 → Q (some (jI 0)) M') : ∀ (t c : Nat) (M : fx_M), (c : Int) + t = Z.1 * Z.2.1 → fTy M0 M → mst' M Z S → (∀ k : Nat, (k : Int) < Z.1 * Z.2.1 → M 165 (k : Int) = (S k : Nat)) → M 133 56 = 0 → mlo M0 M [] → fTr Z S (4 * (Z.1 * Z.2.1).toNat) 0 = fTr Z S (4 * ((Z.1 * Z.2.1).toNat - c)) (4 * c) → wp kc (d + 8) 311 6 [some (jR 133), some (jI c), none, none] [] M Q := by
  have h9 := pz_n ho
  have h1s := ho.2.2.2.2.1
  intro t
  induction t with
  | zero =>
    intro c M hc hf hm h165 h56 hlo he
    have hz := mz_Ty hz0 hf
    refine s311_6 (s248 (s311_11 ?_))
    rw [hz.1, hz.2.1]
    refine ⟨⟨⟨by omega, by omega⟩, ⟨by omega, by omega⟩⟩, fun _ => K0 ?_ M hf hm hlo h56, fun h => by omega⟩
    rw [he, show 4 * ((Z.1 * Z.2.1).toNat - c) = 0 by omega]
    rfl
  | succ t ih =>
    intro c M hc hf hm h165 h56 hlo he
    have hz := mz_Ty hz0 hf
    refine s311_6 (s248 (s311_11 ?_))
    rw [hz.1, hz.2.1]
    refine ⟨⟨⟨by omega, by omega⟩, ⟨by omega, by omega⟩⟩, fun h => by omega, fun _ => ?_⟩
    refine ft_in (M0 := M0) ho hS hl0 (by omega) (fun y e M1 a1 a2 a3 a4 a5 a6 => K1 c y e M1 a1 a2 a3 a4 a5 a6) (fun e M1 a1 a2 a3 a4 a5 => ?_) Z.2.2.1.toNat 0 M (by omega) hf hz hm h165 h56 hlo (by rw [he]; congr 1; omega)
    have nx := ih (c + 1) M1 (by omega) a1 a2 a3 a4 a5 e
    rw [show ((c + 1 : Nat) : Int) = (c : Int) + 1 by omega] at nx
    exact nx
theorem sp_findTry (ho : pz_ok Z) (hS : sLt Z S) {M : fx_M} (hl : mli M) (hz : mz M 0 Z) (hm : mst' M Z S) (h56 : M 133 56 = 0) (K1 : ∀ c y, fTr Z S (4 * (Z.1 * Z.2.1).toNat) 0 = some (c, y) → ∀ M', fTy M M' → mst' M' Z S → mlo M M' [] → M' 133 56 = 0 → M' 133 51 = (c : Int) → M' 133 52 = (y : Int) → Q (some (jI 1)) M') (K0 : fTr Z S (4 * (Z.1 * Z.2.1).toNat) 0 = none → ∀ M', fTy M M' → mst' M' Z S → mlo M M' [] → M' 133 56 = 0 → Q (some (jI 0)) M') : wc kc (d + 8) 311 [jR 133] M Q := by
  have h9 := pz_n ho
  refine s311 (sp_keepStanding (fun M1 k1 k2 => s311_4 ?_))
  exact ft_out (M0 := M) ho hS hl hz K1 K0 (Z.1 * Z.2.1).toNat 0 M1 (by omega) (fun b j _ h2 _ _ => k2 b j h2) (fun k hk => by rw [k2 _ _ (by decide)]; exact hm k hk) (fun k hk => by rw [k1 k (by omega)]; exact hm k hk) (by rw [k2 _ _ (by decide)]; exact h56) (mlo_fr hl (k2 _ _ (by decide)) (k2 _ _ (by decide)) (fun j => k2 _ _ (by decide))) (by congr 1)
/-- findStep: what it leaves -/
theorem sp_mFindStep (ho : pz_ok Z) (hS : sLt Z S) {M : fx_M} (hl : mli M) (hz : mz M 0 Z) (hm : mst' M Z S) (K : ∀ M', fTy M M' → mst' M' Z S → mlo M M' [] → M' 133 56 = 0 → ((fSt Z S).1 ≠ 0 → M' 133 51 = (fSt Z S).2.2.2.1 ∧ M' 133 52 = ((fSt Z S).2.2.2.2 : Nat)) → ((fSt Z S).1 = 1 ∨ (fSt Z S).1 = 2 → M' 133 53 = ((fSt Z S).2.1 : Nat) ∧ M' 133 54 = (fSt Z S).2.2.1 ∧ mjt M' (jnC (rl Z (fSt Z S).2.1) (secR Z (fSt Z S).2.2.1))) → Q (some (jI ((fSt Z S).1 : Nat))) M') : wc kc (d + 9) 306 [jR 133] M Q := by
  have hS16 := sLt_16 ho hS
  have fu : ∀ b j, ¬ (b = 133 ∧ j = 56) → (fx_up M 133 56 0) b j = M b j := fun b j hb => fx_up_ne hb
  have l0 : mlo M (fx_up M 133 56 0) [] := mlo_fr hl (fu _ _ (by omega)) (fu _ _ (by omega)) (fun j => fu _ _ (by omega))
  have t0 : fTy M (fx_up M 133 56 0) := fun b j _ _ _ h4 => fu b j (by omega)
  have z0 : mz (fx_up M 133 56 0) 0 Z := mz_frM hz (fun b j h1 h2 => fu b j (by omega))
  have m0 : mst' (fx_up M 133 56 0) Z S := fun k hk => by rw [fu _ _ (by omega)]; exact hm k hk
  have e0 : (fx_up M 133 56 0) 133 56 = 0 := by rw [fx_up_self]
  have g54 : ∀ {A B : fx_M}, f54 A B → mli A → mlo A B [] := fun h h2 => mlo_54 h2 h
  refine s306 (sp_findFirst (d := d + 2) ho hS16 z0 m0 (fun r R c y e hR M1 f1 j1 a1 a2 a3 a4 => s306_9 ?_) (fun e M1 f1 => s306_9 ?_))
  · have ev : fSt Z S = (1, r, -1, c, y) := by
      unfold fSt
      rw [e]
    rw [ev] at K
    refine ⟨⟨by omega, by omega⟩, fun h => by omega, fun _ => K M1 (fTy_tr t0 (fTy_Go (fGo_54 f1))) (mst_54 m0 f1) (mlo_0 (mlo_tr hl l0 (g54 f1 l0.ok))) (by rw [f1 _ _ (by decide) (by decide) (by decide) (by omega)]; exact e0) (fun _ => ⟨a1, a2⟩) (fun _ => ⟨a3, a4, ?_⟩)⟩
    show mjt M1 (jnC (rl Z r) (secR Z (-1)))
    rw [rl_of hR]
    exact j1
  · have z1 := mz_54 z0 f1
    have m1 := mst_54 m0 f1
    have l1 := mlo_0 (mlo_tr hl l0 (g54 f1 l0.ok))
    have t1 := fTy_tr t0 (fTy_Go (fGo_54 f1))
    have e1 : M1 133 56 = 0 := by rw [f1 _ _ (by decide) (by decide) (by decide) (by omega)]; exact e0
    refine ⟨⟨by omega, by omega⟩, fun _ => sp_mFindTwo (d := d + 2) ho hS16 z1 m1 (fun r q R R2 c y e2 hR hR2 M2 f2 j2 a1 a2 a3 a4 => s306_20 ?_) (fun e2 M2 f2 => s306_20 ?_), fun h => absurd rfl h⟩
    · have ev : fSt Z S = (2, r, (q : Int), c, y) := by
        unfold fSt
        rw [e, e2]
      rw [ev] at K
      refine ⟨⟨by omega, by omega⟩, fun h => by omega, fun _ => K M2 (fTy_tr t1 (fTy_Go (fGo_54 f2))) (mst_54 m1 f2) (mlo_0 (mlo_tr hl l1 (g54 f2 l1.ok))) (by rw [f2 _ _ (by decide) (by decide) (by decide) (by omega)]; exact e1) (fun _ => ⟨a1, a2⟩) (fun _ => ⟨a3, a4, ?_⟩)⟩
      show mjt M2 (jnC (rl Z r) (secR Z (q : Int)))
      have : secR Z (q : Int) = some R2 := by
        unfold secR
        rw [if_neg (by omega), Int.toNat_natCast, rl_of hR2]
      rw [rl_of hR, this]
      exact j2
    · have z2 := mz_54 z1 f2
      have m2 := mst_54 m1 f2
      have l2 := mlo_0 (mlo_tr hl l1 (g54 f2 l1.ok))
      have t2 := fTy_tr t1 (fTy_Go (fGo_54 f2))
      have e22 : M2 133 56 = 0 := by rw [f2 _ _ (by decide) (by decide) (by decide) (by omega)]; exact e1
      refine ⟨⟨by omega, by omega⟩, fun _ => sp_findTry ho hS l2.ok z2 m2 e22 (fun c y e3 M3 f3 m3 o3 b6 a1 a2 => s306_31 ?_) (fun e3 M3 f3 m3 o3 b6 => s306_31 ?_), fun h => absurd rfl h⟩
      · have ev : fSt Z S = (3, 0, -1, (c : Int), y) := by
          unfold fSt
          rw [e, e2, e3]
        rw [ev] at K
        rw [if_neg (by decide)]
        exact ⟨⟨by omega, by omega⟩, K M3 (fTy_tr t2 f3) m3 (mlo_0 (mlo_tr hl l2 o3)) b6 (fun _ => ⟨a1, a2⟩) (fun h => by rcases h with h | h <;> cases h)⟩
      · have ev : fSt Z S = (0, 0, -1, 0, 0) := by
          unfold fSt
          rw [e, e2, e3]
        rw [ev] at K
        rw [if_pos rfl]
        exact ⟨⟨by omega, by omega⟩, K M3 (fTy_tr t2 f3) m3 (mlo_0 (mlo_tr hl l2 o3)) b6 (fun h => absurd rfl h) (fun h => by rcases h with h | h <;> cases h)⟩
end MTR
