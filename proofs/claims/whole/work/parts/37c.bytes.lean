/-! THE STEP: every answer is bytes. -/
def byt (l : List Int) : Prop := ∀ x ∈ l, 0 ≤ x ∧ x ≤ 255
theorem byt_nil : byt [] := fun x hx => (by cases hx)
theorem byt_app {a b : List Int} (ha : byt a) (hb : byt b) : byt (a ++ b) := fun x hx => by
  rcases List.mem_append.mp hx with h | h
  · exact ha x h
  · exact hb x h
theorem byt_cons {c : Int} {b : List Int} (hc : 0 ≤ c ∧ c ≤ 255) (hb : byt b) : byt (c :: b) := fun x hx => by
  rcases List.mem_cons.mp hx with h | h
  · rw [h]
    exact hc
  · exact hb x h
theorem byt_32 {b : List Int} (hb : byt b) : byt (32 :: b) := byt_cons ⟨by omega, by omega⟩ hb
theorem byt_1 {c : Int} (hc : 0 ≤ c ∧ c ≤ 255) : byt [c] := byt_cons hc byt_nil
theorem byt_fm {α : Type} {l : List α} {f : α → List Int} (h : ∀ x ∈ l, byt (f x)) : byt (l.flatMap f) := fun x hx => by
  obtain ⟨a, ha, hb⟩ := List.mem_flatMap.mp hx
  exact h a ha x hb
theorem byt_dgk {v : Int} : ∀ k : Nat, byt (dgk v k)
  | 0 => byt_1 ⟨by have := Int.emod_nonneg v (show (10 : Int) ≠ 0 by decide); omega, by have := Int.emod_lt_of_pos v (show (0 : Int) < 10 by decide); omega⟩
  | k + 1 => by
    rw [dgk]
    refine byt_cons ?_ (byt_dgk k)
    generalize v / ((10 ^ (k + 1) : Nat) : Int) = u
    have h1 := Int.emod_nonneg u (show (10 : Int) ≠ 0 by decide)
    have h2 := Int.emod_lt_of_pos u (show (0 : Int) < 10 by decide)
    omega
theorem byt_dgs {v : Int} : byt (dgs v) := byt_dgk _
theorem byt_wls {w : Int} : byt (wls w) := fun x hx => by
  obtain ⟨i, -, hi⟩ := List.mem_map.mp (show x ∈ (List.range (wln w)).map fun (i : Nat) => wlt w (i : Int) from hx)
  rw [← hi]
  unfold wlt
  generalize w / ((2 ^ (8 * ((wln w : Int) - 1 - (i : Int))).toNat : Nat) : Int) = u
  have h1 := Int.emod_nonneg u (show (256 : Int) ≠ 0 by decide)
  have h2 := Int.emod_lt_of_pos u (show (0 : Int) < 256 by decide)
  omega
theorem byt_wd {w v : Int} : byt (wls w ++ 32 :: dgs v) := byt_app byt_wls (byt_32 byt_dgs)
theorem byt_no {w : Int} : byt (t_no w) := byt_app (byt_cons (by omega) (byt_cons (by omega) (byt_1 (by omega)))) byt_wls
theorem byt_ok : byt t_ok := byt_cons (by omega) (byt_1 (by omega))
theorem byt_rf {r : Int} : byt (t_rf r) := by
  unfold t_rf
  split
  · exact byt_no
  · split
    · exact byt_no
    · split
      · exact byt_no
      · split
        · exact byt_no
        · split
          · exact byt_no
          · exact byt_ok
theorem byt_bad {p : Int} : byt (t_bad p) := byt_app (byt_cons (by omega) (byt_cons (by omega) (byt_cons (by omega) (byt_1 (by omega))))) byt_dgs
theorem byt_fil {x : List Int} (h : ∀ y ∈ x, 0 ≤ y ∧ y < 200) : byt (tFil x) := fun z hz => by
  obtain ⟨y, h1, h2⟩ := List.mem_map.mp (show z ∈ x.map (48 + ·) from hz)
  have := h y h1
  rw [← h2]
  omega
theorem byt_lit {sg c : Int} {y : Nat} (hs : 0 ≤ sg ∧ sg ≤ 255) (hc : 0 ≤ c ∧ c < 9) (hy : y < 9) : byt (lit sg c y) := byt_cons (by omega) (byt_cons hs (byt_cons (by omega) (byt_cons (by omega) (byt_1 (by omega)))))
theorem lowb_9 {b : Nat} : lowb b < 9 := by
  unfold lowb
  cases h : (List.range 9).find? b.testBit with
  | none => exact Nat.zero_lt_succ _
  | some x => exact List.mem_range.mp (List.mem_of_find?_eq_some h)
section BYZ
variable {Z : PZ}
theorem byt_text (ho : pz_ok Z) : byt (tText Z) := (tText_b ho).2
theorem byt_rsC (ho : pz_ok Z) {S : Nat → Nat} {c0 e : Int} (he : 0 ≤ e ∧ e < Z.1 * Z.2.1) : byt (rsC Z S c0 e) := by
  have h9 := pz_n ho
  have h4 := ho.2.2.2.2.2.1
  unfold rsC
  split
  · exact byt_nil
  · refine byt_fm (fun t ht => ?_)
    have := List.mem_range.mp ht
    split
    · exact byt_nil
    · exact byt_lit (by omega) (by omega) (by omega)
theorem byt_tRs (ho : pz_ok Z) {S : Nat → Nat} {R : PR} {s : Option PR} {r : Nat} {q c : Int} {y : Nat} (hj : ∀ e ∈ jnC R s, 0 ≤ e ∧ e < Z.1 * Z.2.1) (hc : 0 ≤ c ∧ c < Z.1 * Z.2.1) (hy : y < 4) : byt (tRs Z S R s r q c y) := by
  have h9 := pz_n ho
  unfold tRs
  refine byt_app (byt_app (byt_app ?_ (byt_lit (by omega) (by omega) (by omega))) (byt_fm (fun e he => byt_rsC ho (hj e he)))) (byt_1 (by omega))
  cases s with
  | none => exact byt_app (byt_1 (by omega)) byt_dgs
  | some _ => exact byt_app (byt_app (byt_1 (by omega)) byt_dgs) (byt_32 byt_dgs)
theorem byt_gOn (ho : pz_ok Z) : ∀ (k : Nat) (S : Nat → Nat), byt (gOn Z k S).2.2
  | 0, S => byt_nil
  | k + 1, S => by
    rw [gOn]
    split
    · exact byt_nil
    · cases h1 : fO1 Z S Z.2.2.2.1 0 with
      | none => exact byt_nil
      | some x =>
        obtain ⟨r, c, y⟩ := x
        obtain ⟨R, a1, a2, a3, a4, a5, a6⟩ := fO1_in ho h1
        have hR := ho.2.2.2.2.2.2.2.1 R (List.mem_of_getElem? a1)
        refine byt_app ?_ (byt_gOn ho k _)
        rw [rl_of a1]
        exact byt_tRs ho (fun e he => by
          rw [jnC_none] at he
          exact hR.2.2.2.2.2.2.1 e he) a2 a3
theorem byt_leaf (ho : pz_ok Z) {S : Nat → Nat} : byt (tLeaf Z S) := by
  have h9 := pz_n ho
  unfold tLeaf
  refine byt_app (byt_app (byt_1 (by omega)) (byt_fm (fun c hc => ?_))) (byt_1 (by omega))
  have := List.mem_range.mp hc
  exact byt_lit (by omega) (by omega) lowb_9
theorem byt_done {ch : List (Int × Nat)} (h : ∀ q ∈ ch, 0 ≤ q.1 ∧ q.1 < 9 ∧ q.2 < 9) : byt (tDone ch) := by
  unfold tDone
  refine byt_app (byt_app (byt_1 (by omega)) (byt_fm (fun q hq => ?_))) (byt_1 (by omega))
  have := h q hq
  exact byt_lit (by omega) (by omega) (by omega)
theorem byt_gvs (ho : pz_ok Z) : byt (tGvs Z) := by
  have h9 := pz_n ho
  have h4 := ho.2.2.2.2.2.1
  unfold tGvs
  refine byt_fm (fun c hc => ?_)
  have hc9 := List.mem_range.mp hc
  split
  · exact byt_nil
  · next hg =>
    have hv := gv_b ho (c := c)
    exact byt_app (byt_app (byt_app (byt_1 (by omega)) byt_dgs) (byt_lit (by omega) (by omega) (by omega))) (byt_1 (by omega))
theorem byt_vks {f : Nat → Nat × Nat × List Int} {m : Nat} (h : ∀ y, y < 4 → byt (f y).2.2) : ∀ t : Nat, t ≤ 4 → byt (vks f m t).2.2
  | 0, _ => byt_nil
  | t + 1, ht => by
    rw [vks]
    split
    · exact byt_app (h _ (by omega)) (byt_vks h t (by omega))
    · exact byt_vks h t (by omega)
theorem byt_vis (ho : pz_ok Z) : ∀ (k : Nat) (S : Nat → Nat) (ch : List (Int × Nat)), (∀ q ∈ ch, 0 ≤ q.1 ∧ q.1 < 9 ∧ q.2 < 9) → byt (vis Z k S ch).2.2
  | 0, _, _, _ => byt_nil
  | k + 1, S, ch, hch => by
    have h9 := pz_n ho
    rw [vis]
    split
    · refine byt_app (byt_app (byt_gOn ho _ _) ?_) (byt_done hch)
      split
      · exact byt_nil
      · exact byt_leaf ho
    · next hn =>
      have hb := cch_b (S := (gOn Z 37 S).1) (Z.1 * Z.2.1).toNat 0 (-1) (by omega) (by omega)
      have hc : cCh Z (gOn Z 37 S).1 = cch (gOn Z 37 S).1 (Z.1 * Z.2.1).toNat 0 (-1) := rfl
      have hn2 : ¬ cCh Z (gOn Z 37 S).1 < 0 := fun x => hn (Or.inr x)
      have hx : byt (vks (fun y => vis Z k (s_only (gOn Z 37 S).1 (cCh Z (gOn Z 37 S).1).toNat y) (ch ++ [(cCh Z (gOn Z 37 S).1, y)])) ((gOn Z 37 S).1 (cCh Z (gOn Z 37 S).1).toNat) 4).2.2 := byt_vks (fun y hy => byt_vis ho k _ _ (fun q hq => by
        rcases List.mem_append.mp hq with e | e
        · exact hch q e
        · rw [List.mem_singleton.mp e]
          dsimp only
          omega)) 4 (Nat.le_refl _)
      exact byt_app (byt_app (byt_gOn ho _ _) hx) (byt_done hch)
theorem byt_proof (ho : pz_ok Z) : byt (tProof Z) := by
  unfold tProof
  by_cases c : vFit Z 1
  · rw [if_pos c]
    exact byt_app (byt_gvs ho) (byt_vis ho _ _ _ (fun q hq => (by cases hq)))
  · rw [if_neg c]
    exact byt_wls
theorem byt_grade : byt (tGrade Z) := by
  unfold tGrade
  by_cases c : vFit Z 0
  · rw [if_pos c]
    exact byt_app (byt_app byt_dgs (byt_32 byt_dgs)) (byt_32 byt_dgs)
  · rw [if_neg c]
    exact byt_wls
theorem byt_stT (ho : pz_ok Z) {S : Nat → Nat} (h : (fSt Z S).1 ≠ 0) : byt (stT Z S) := by
  have h9 := pz_n ho
  obtain ⟨a1, a2, a3, a4, a5, a6, a7⟩ := fSt_in ho h
  unfold stT
  split
  · next h3 =>
    obtain ⟨R, r1, r2, r3⟩ := a6 h3
    have hR := ho.2.2.2.2.2.2.2.1 R (List.mem_of_getElem? r1)
    rw [rl_of r1]
    exact byt_tRs ho (jnC_ok ho hR r2).2.2 ⟨a2, a3⟩ a4
  · refine byt_app (byt_gOn ho _ _) (byt_done (fun q hq => ?_))
    rw [List.mem_singleton.mp hq]
    dsimp only
    omega
theorem byt_sRn (ho : pz_ok Z) : ∀ (k : Nat) (S : Nat → Nat), byt (sRn Z k S).2.2.2.2
  | 0, S => byt_nil
  | k + 1, S => by
    rw [sRn]
    split
    · exact byt_nil
    · next h => exact byt_app (byt_stT ho (fun e => h (Or.inr e))) (byt_sRn ho k _)
theorem byt_lesson (ho : pz_ok Z) : byt (tLesson Z) := by
  have hL : byt (tLes Z) := by
    unfold tLes
    refine byt_app (byt_app (byt_app (byt_gvs ho) (byt_sRn ho _ _)) ?_) ?_
    · split
      · exact byt_leaf ho
      · exact byt_nil
    · split
      · exact byt_done (fun q hq => (by cases hq))
      · exact byt_nil
  unfold tLesson
  split
  · split
    · exact byt_1 (by omega)
    · exact hL
  · exact byt_wls
theorem byt_step {S : Nat → Nat} : byt (tStep Z S) := by
  unfold tStep
  split
  · split <;> exact byt_wls
  · refine byt_app (byt_app (byt_app (byt_app ?_ (byt_32 byt_dgs)) (byt_32 byt_dgs)) ?_) ?_
    · split
      · exact byt_wls
      · split <;> exact byt_wls
    · split
      · exact byt_32 byt_dgs
      · exact byt_nil
    · split
      · exact byt_32 byt_dgs
      · exact byt_nil
theorem byt_solve {S : Nat → Nat} : byt (tSolve Z S) := by
  unfold tSolve
  refine byt_app (byt_app (byt_app ?_ (byt_32 byt_dgs)) (byt_32 byt_dgs)) (byt_32 byt_dgs)
  unfold eW
  split
  · exact byt_wls
  · split <;> exact byt_wls
theorem byt_hn1 {R : PR} {S : Nat → Nat} {r : Nat} : ∀ (l : List Int) (i : Nat) (x : List Int), hn1 Z R S r l i = some x → byt x
  | [], _, _, h => (by cases h)
  | c :: t, i, x, h => by
    rw [hn1] at h
    split at h
    · cases h
      exact byt_wls
    · split at h
      · cases h
        exact byt_app (byt_app (byt_app byt_wls (byt_32 byt_dgs)) (byt_32 byt_dgs)) (byt_32 byt_dgs)
      · exact byt_hn1 t (i + 1) x h
theorem byt_hnR {S : Nat → Nat} : ∀ (l : List PR) (r : Nat), byt (hnR Z S l r)
  | [], _ => byt_wls
  | R :: t, r => by
    rw [hnR]
    cases h : hn1 Z R S r R.2.2 0 with
    | none => exact byt_hnR t (r + 1)
    | some x => exact byt_hn1 _ _ _ h
theorem byt_ans {n : Nat} : byt (tAns Z n) := by
  unfold tAns
  refine byt_app (byt_fm (fun x hx => byt_app (byt_fil (fun y hy => ?_)) (byt_1 (by omega)))) ?_
  · have := (ans_len (List.mem_of_mem_take hx)).2 y hy
    omega
  · split <;> exact byt_wls
theorem byt_pick {n : Nat} : byt (tPick Z n) := by
  unfold tPick
  split
  · next x h =>
    refine byt_fil (fun y hy => ?_)
    have := (ans_len (List.mem_of_getElem? h)).2 y hy
    omega
  · exact byt_wls
theorem byt_clT : ∀ (t c : Nat) (Y : PZ), byt (clT t c Y)
  | 0, _, _ => byt_nil
  | t + 1, c, Y => by
    rw [clT]
    split
    · split
      · exact byt_clT t (c + 1) _
      · exact byt_app (byt_32 byt_dgs) (byt_clT t (c + 1) _)
    · exact byt_clT t (c + 1) _
theorem byt_clash : byt (tClash Z) := by
  unfold tClash
  split
  · exact byt_app byt_wls (byt_clT _ _ _)
  · exact byt_wls
theorem byt_not1 : byt tNot1 := byt_app byt_wls (byt_32 byt_wls)
theorem byt_wrong {V : fx_M} : byt (tWrong Z V) := by
  unfold tWrong
  split
  · exact byt_dgs
  · exact byt_not1
theorem byt_tCw : ∀ (b : Bool) (l : List Nat), byt (tCw b l)
  | _, [] => byt_1 (by omega)
  | b, r :: l => by
    rw [tCw]
    refine byt_app (byt_app ?_ byt_dgs) (byt_tCw false l)
    split
    · exact byt_nil
    · exact byt_1 (by omega)
theorem byt_cov {n : Nat} : byt (tCov Z n) := by
  unfold tCov tCs
  refine byt_app (byt_fm (fun x _ => byt_tCw true x)) ?_
  split <;> exact byt_wls
theorem byt_bar (ho : pz_ok Z) : byt (tBar Z) := by
  have h3 : byt ([32, 50, 32] : List Int) := byt_cons (by omega) (byt_cons (by omega) (byt_1 (by omega)))
  have h4 : byt ([32, 51, 32] : List Int) := byt_cons (by omega) (byt_cons (by omega) (byt_1 (by omega)))
  unfold tBar
  split
  · next x A h =>
    exact byt_app (byt_app byt_wls h3) (byt_fil (fun y hy => by
      obtain ⟨i, hi, rfl⟩ := mem_getD hy
      have := (bar_len h).2 i hi
      omega))
  · split
    · next x A h =>
      exact byt_app (byt_app byt_wls h4) (byt_fil (fun y hy => by
      obtain ⟨i, hi, rfl⟩ := mem_getD hy
      have := (bar_len h).2 i hi
      omega))
    · exact byt_wls
theorem byt_form (ho : pz_ok Z) (hn : pnZ Z) : byt (fmT Z) := by
  by_cases h : ∃ Y, isMin Z Y
  · obtain ⟨Y, hY⟩ := h
    rw [fmT_e ho hn hY]
    exact (tText_b (isMin_ok ho hn hY).1).2
  · unfold fmT
    rw [dif_neg h]
    exact byt_nil
theorem byt_ck {A : List LN} : ∀ (t i : Nat), byt (tCk Z A t i)
  | 0, i => by
    rw [tCk]
    unfold tCkE
    by_cases c : (lnA A (A.length - 1)).1 = 3 ∧ (lnA A (A.length - 1)).2.2.2 = []
    · rw [if_pos c]
      exact byt_wd
    · rw [if_neg c]
      exact byt_wls
  | t + 1, i => by
    rw [tCk]
    by_cases c : rgt Z (ptL A i) (lnA A i)
    · rw [if_pos c]
      exact byt_ck t (i + 1)
    · rw [if_neg c]
      exact byt_wd
theorem byt_chg {v b r : Int} : byt (tChg v b r Z) := by
  have h1 : byt ([114, 117, 108, 101, 32] : List Int) := byt_cons (by omega) (byt_cons (by omega) (byt_cons (by omega) (byt_cons (by omega) (byt_1 (by omega)))))
  have h2 : byt ([114, 117, 108, 101, 115, 32] : List Int) := byt_cons (by omega) (byt_cons (by omega) (byt_cons (by omega) (byt_cons (by omega) (byt_cons (by omega) (byt_1 (by omega))))))
  unfold tChg
  split
  · split
    · exact byt_app h1 byt_dgs
    · split
      · exact byt_app h2 byt_dgs
      · exact byt_ok
  · exact byt_rf
theorem byt_st {V : fx_M} (hv : pv_ok V) (hz : ∀ s ∈ Z.2.2.2.2, -1 ≤ s ∧ s < 9) (h9 : Z.1 * Z.2.1 ≤ 9) : byt ((List.range (Z.1 * Z.2.1).toNat).flatMap (t_st1 V Z)) := byt_fm (fun c hc => by
  have hc9 := List.mem_range.mp hc
  have q := hv.2.2.1 (9 * V 0 0 + c) (by have := hv.1; omega) (by have := hv.2.1; omega)
  have hg : Z.2.2.2.2.getD c (-1) < 9 := by
    rw [List.getD_eq_getElem?_getD]
    cases h : Z.2.2.2.2[c]? with
    | none => exact (by decide : (-1 : Int) < 9)
    | some s => exact (hz s (List.mem_of_getElem? h)).2
  unfold t_st1
  by_cases h : Z.2.2.2.2.getD c (-1) < 0
  · rw [if_pos h]
    split
    · exact byt_1 ⟨by omega, by omega⟩
    · exact byt_1 ⟨by omega, by omega⟩
  · rw [if_neg h]
    split
    · exact byt_1 ⟨by omega, by omega⟩
    · exact byt_1 ⟨by omega, by omega⟩)
end BYZ
