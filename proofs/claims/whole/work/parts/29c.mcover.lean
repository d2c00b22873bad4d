/-! The reference's covers: the loop over sets of rules. -/
section MCL
variable {kc : List va_E} {d : Nat} {Q : Option fx_V → fx_M → Prop} {Z : PZ}
/-- what some rules leave -/
def lfC (Z : PZ) (q : List Nat) : Nat := anb (wl Z) (un1 Z q)
/-- the covers behind those that begin with some rules -/
def bhC (Z : PZ) : List Nat → List (List Nat)
  | [] => []
  | s :: q => (cvL ((rmS Z).drop (s + 1)) (s + 1) (lfC Z q)).map (q.reverse ++ ·) ++ bhC Z q
theorem lfC_lt (ho : pz_ok Z) {q : List Nat} : lfC Z q < 512 := anb_lt (wl_lt ho)
theorem lfC_cons (ho : pz_ok Z) {r : Nat} {q : List Nat} : lfC Z (r :: q) = anb (lfC Z q) (mk1 Z r) := Nat.eq_of_testBit_eq (fun i => by
  rw [anb_bit (lfC_lt ho)]
  unfold lfC
  rw [anb_bit (wl_lt ho), anb_bit (wl_lt ho), un1, Nat.testBit_or, Bool.not_or, Bool.and_assoc])
theorem lfC_nil (ho : pz_ok Z) : lfC Z [] = wl Z := Nat.eq_of_testBit_eq (fun i => by
  unfold lfC
  rw [anb_bit (wl_lt ho), un1, Nat.zero_testBit]
  simp)
theorem mk1_wl (ho : pz_ok Z) {r : Nat} (hr : r < Z.2.2.2.1.length) {i : Nat} (h : (mk1 Z r).testBit i = true) : (wl Z).testBit i = true := by
  rw [mk1_of (List.getElem?_eq_getElem hr)] at h
  exact nar_wl ho (List.getElem_mem hr) h
theorem ovl_iff (ho : pz_ok Z) {r : Nat} {q : List Nat} (hr : r < Z.2.2.2.1.length) : mk1 Z r &&& un1 Z q = 0 ↔ anb (mk1 Z r) (lfC Z q) = 0 := by
  rw [anb_0 (mk1_lt ho hr)]
  constructor
  · intro h i hi
    unfold lfC
    rw [anb_bit (wl_lt ho), mk1_wl ho hr hi]
    by_cases hu : (un1 Z q).testBit i = true
    · have : (mk1 Z r &&& un1 Z q).testBit i = true := by rw [Nat.testBit_and, hi, hu]; rfl
      rw [h, Nat.zero_testBit] at this
      cases this
    · simp only [Bool.not_eq_true] at hu
      rw [hu]
      rfl
  · intro h
    refine Nat.eq_of_testBit_eq (fun i => ?_)
    rw [Nat.testBit_and, Nat.zero_testBit]
    by_cases hi : (mk1 Z r).testBit i = true
    · have h1 := h i hi
      unfold lfC at h1
      rw [anb_bit (wl_lt ho), Bool.and_eq_true] at h1
      have h2 := h1.2
      simp only [Bool.not_eq_true'] at h2
      rw [h2, Bool.and_false]
    · simp only [Bool.not_eq_true] at hi
      rw [hi, Bool.false_and]
theorem whl_iff (ho : pz_ok Z) {q : List Nat} (hq : ∀ x ∈ q, x < Z.2.2.2.1.length) : un1 Z q = wl Z ↔ lfC Z q = 0 := by
  unfold lfC
  rw [anb_0 (wl_lt ho)]
  constructor
  · intro h i hi
    rw [h]
    exact hi
  · intro h
    refine Nat.eq_of_testBit_eq (fun i => ?_)
    rw [Bool.eq_iff_iff]
    constructor
    · intro hi
      obtain ⟨x, h1, h2⟩ := un1_bit.mp hi
      exact mk1_wl ho (hq x h1) h2
    · exact h i
theorem un1_lt (ho : pz_ok Z) {q : List Nat} (hq : ∀ x ∈ q, x < Z.2.2.2.1.length) : un1 Z q < 512 := by
  refine Nat.lt_pow_two_of_testBit (n := 9) _ (fun i hi => ?_)
  by_cases hb : (un1 Z q).testBit i = true
  · obtain ⟨x, h1, h2⟩ := un1_bit.mp hb
    have := lt512_bit (mk1_lt ho (hq x h1)) h2
    omega
  · simpa using hb
theorem mmk_wr {M : fx_M} {cs : List Int} (h : mmk M Z) : mmk (m_app M cs) Z := fun r R hR => by
  rw [m_app_ne (by omega) (by decide)]
  exact h r R hR
theorem sc_loop (ho : pz_ok Z) {n : Nat} (hn : n ≤ 1000) {M0 : fx_M} (hO : m_ok M0) (K : ∀ M', mwr M0 M' (tCov Z n) → Q none M') : ∀ (t : Nat) (q : List Nat) (r : Nat) (B : List (List Nat)) (M : fx_M), r + t = Z.2.2.2.1.length → q.Pairwise (· > ·) → (∀ x ∈ q, x < r) → dsj Z q → lfC Z q ≠ 0 → B.length ≤ n + 1 → B ++ ((cvL ((rmS Z).drop r) r (lfC Z q)).map (q.reverse ++ ·) ++ bhC Z q) = covs Z → mwr M0 M (tCs B n) → mz M 0 Z → mmk M Z → (∀ (B' : List (List Nat)) (M' : fx_M), B'.length ≤ n + 1 → B' ++ bhC Z q = covs Z → mwr M0 M' (tCs B' n) → mz M' 0 Z → mmk M' Z → wp kc (d + 6) 413 35 [some (jR 133), some (jI n), some (jI (wl Z : Nat)), some (jI (B'.length : Nat)), some (jI (nmS Z.2.2.2.1.length q Z.2.2.2.1.length : Nat)), none] [] M' Q) → wp kc (d + 6) 413 35 [some (jR 133), some (jI n), some (jI (wl Z : Nat)), some (jI (B.length : Nat)), some (jI (nmS Z.2.2.2.1.length q r : Nat)), none] [] M Q := by
  have h12 := ho.2.2.2.2.2.2.1
  have hw9 := wl_lt ho
  intro t
  induction t with
  | zero =>
    intro q r B M hr hp hx hd h0 hB hA hw hz hm H
    rw [rmS_all (by omega), cvL_nil h0, List.map_nil, List.nil_append] at hA
    rw [show r = Z.2.2.2.1.length by omega]
    exact H B M hB hA hw hz hm
  | succ t ih =>
    intro q r B M hr hp hx hd h0 hB hA hw hz hm H
    have hrl : r < Z.2.2.2.1.length := by omega
    have hR := List.getElem?_eq_getElem hrl
    have hqk : q_ok Z.2.2.2.1.length (r :: q) := ⟨List.pairwise_cons.mpr ⟨hx, hp⟩, fun x h => by
      rcases List.mem_cons.mp h with e | e
      · omega
      · have := hx x e
        omega⟩
    have hlt := bqs_lt (q := r :: q) (fun x h => by have := hqk.2 x h; omega)
    have hne := bqs_ne (r := r) (q := q)
    rw [nmS_lt hrl]
    rw [rmS_drop hR, ← mk1_of hR, cvL_cons h0, List.map_append] at hA
    have hu9 := un1_lt ho hqk.2
    have he2 : ((r + 1 : Nat) : Int) = (r : Int) + 1 := by omega
    have hx1 : ∀ x ∈ q, x < r + 1 := fun x h => by have := hx x h; omega
    have hOM := mwr_ok hw hO
    refine s413_35 ⟨⟨by omega, by omega⟩, fun h => by omega, fun _ => ⟨⟨⟨by omega, by omega⟩, ⟨by omega, by omega⟩⟩, fun hlt' => ?_, fun hle => ?_⟩⟩
    · rw [if_pos hlt']
      refine ⟨⟨by omega, by omega⟩, ⟨by omega, by omega⟩, sp_sayWord (d := d + 2) (by unfold w_ok; omega) hOM (s413_118 (K _ ?_))⟩
      unfold tCov
      rw [← hA, tCs_app, show n - B.length = 0 by omega, tCs_0, List.append_nil, if_pos (by rw [List.length_append]; omega)]
      exact mwr_tr hw mwr_app
    · refine sp_cellsOf (d := d + 4) ho hqk hd hz.2.2.2.1 hm (s413_51 ?_)
      by_cases hov : mk1 Z r &&& un1 Z q = 0
      · rw [if_pos hov]
        have ha0 := (ovl_iff ho hrl).mp hov
        rw [if_pos ha0, ← lfC_cons ho] at hA
        refine ⟨⟨⟨by omega, by omega⟩, ⟨by omega, by omega⟩⟩, fun hnw => ?_, fun hwh => ?_⟩
        · have hnw' : un1 Z (r :: q) ≠ wl Z := by omega
          have h0' : lfC Z (r :: q) ≠ 0 := fun e => hnw' ((whl_iff ho hqk.2).mpr e)
          rw [if_neg (show ¬ ((un1 Z (r :: q) : Nat) : Int) < 0 by omega), if_neg hnw]
          refine ⟨⟨by omega, by omega⟩, fun _ => ⟨by omega, by omega⟩, fun _ => ⟨by omega, by omega⟩, sp_nextSet (d := d + 4) (by omega) hz.2.2.2.1 hqk (Or.inr rfl) (s413_95 ?_)⟩
          rw [if_pos rfl]
          have hdj : dsj Z (r :: q) := fun x h1 y h2 hxy i hi hj => by
            have key : ∀ z ∈ q, (mk1 Z z).testBit i = true → (mk1 Z r).testBit i = true → False := fun z hz1 hz2 hz3 => by
              have : (mk1 Z r &&& un1 Z q).testBit i = true := by
                rw [Nat.testBit_and, hz3, un1_bit.mpr ⟨z, hz1, hz2⟩]
                rfl
              rw [hov, Nat.zero_testBit] at this
              cases this
            rcases List.mem_cons.mp h1 with e1 | e1
            · rcases List.mem_cons.mp h2 with e2 | e2
              · omega
              · exact key y e2 hj (by rw [← e1]; exact hi)
            · rcases List.mem_cons.mp h2 with e2 | e2
              · exact key x e1 hi (by rw [← e2]; exact hj)
              · exact hd x e1 y e2 hxy i hi hj
          refine ih (r :: q) (r + 1) B M (by omega) hqk.1 (fun x h => by
            rcases List.mem_cons.mp h with e | e
            · omega
            · exact hx1 x e) hdj h0' hB ?_ hw hz hm (fun B' M' hB' hA' hw' hz' hm' => ?_)
          · rw [← hA, bhC, List.append_assoc, List.map_map]
            have e1 : ((q.reverse ++ ·) ∘ (r :: ·)) = ((r :: q).reverse ++ · : List Nat → List Nat) := by
              funext x
              simp
            rw [e1]
          · rw [nmS_up (Nat.le_refl _)]
            rw [bhC] at hA'
            exact ih q (r + 1) B' M' (by omega) hp hx1 hd h0 hB' hA' hw' hz' hm' H
        · have hwh' : un1 Z (r :: q) = wl Z := by omega
          have h0' : lfC Z (r :: q) = 0 := (whl_iff ho hqk.2).mp hwh'
          rw [h0', cvL_0, List.map_singleton, List.map_singleton] at hA
          have hA2 : (B ++ [(r :: q).reverse]) ++ ((cvL ((rmS Z).drop (r + 1)) (r + 1) (lfC Z q)).map (q.reverse ++ ·) ++ bhC Z q) = covs Z := by
            rw [← hA]
            simp
          have hB2 : (B ++ [(r :: q).reverse]).length = B.length + 1 := by rw [List.length_append, List.length_singleton]
          have hB3 : (((B ++ [(r :: q).reverse]).length : Nat) : Int) = (B.length : Int) + 1 := by omega
          have e0 : (if ((un1 Z (r :: q) : Nat) : Int) < 0 then (0 : Int) else if ((un1 Z (r :: q) : Nat) : Int) = ((wl Z : Nat) : Int) then 0 else 1) = 0 := by
            rw [if_neg (by omega), if_pos hwh]
          rw [e0]
          refine ⟨⟨⟨by omega, by omega⟩, ⟨by omega, by omega⟩⟩, fun hgt => ⟨⟨by omega, by omega⟩, fun _ => ⟨by omega, by omega⟩, fun _ => ⟨by omega, by omega⟩, sp_nextSet (d := d + 4) (by omega) hz.2.2.2.1 hqk (Or.inl rfl) (s413_95 ?_)⟩, fun hle2 => ?_⟩
          · rw [if_neg (by decide), ← hB3]
            refine ih q (r + 1) _ M (by omega) hp hx1 hd h0 (by omega) hA2 ?_ hz hm H
            rw [tCs_app, show n - B.length = 0 by omega, tCs_0, List.append_nil]
            exact hw
          · refine sp_saySet (d := d + 2) (by omega) hz.2.2.2.1 hOM hqk (s413_73 ?_)
            have hz2 : mz (m_app M (tCw true (r :: q).reverse)) 0 Z := mz_frM hz (fun b j h1 h2 => m_app_ne (by omega) (by omega))
            rw [e0]
            refine ⟨⟨by omega, by omega⟩, fun _ => ⟨by omega, by omega⟩, fun _ => ⟨by omega, by omega⟩, sp_nextSet (d := d + 4) (by omega) hz2.2.2.2.1 hqk (Or.inl rfl) (s413_95 ?_)⟩
            rw [if_neg (by decide), ← hB3]
            refine ih q (r + 1) _ _ (by omega) hp hx1 hd h0 (by omega) hA2 ?_ hz2 (mmk_wr hm) H
            have e3 : tCs [(r :: q).reverse] (n - B.length) = tCw true (r :: q).reverse := by
              unfold tCs
              rw [List.take_of_length_le (by rw [List.length_singleton]; omega)]
              simp
            rw [tCs_app, e3]
            exact mwr_tr hw mwr_app
      · rw [if_neg hov]
        have ha0 : ¬ anb (mk1 Z r) (lfC Z q) = 0 := fun h => hov ((ovl_iff ho hrl).mpr h)
        rw [if_neg ha0, List.map_nil, List.nil_append] at hA
        refine ⟨⟨⟨by omega, by omega⟩, ⟨by omega, by omega⟩⟩, fun hnw => ?_, fun h => by omega⟩
        rw [if_pos (by decide)]
        refine ⟨⟨by omega, by omega⟩, fun h => by omega, fun h => by omega, sp_nextSet (d := d + 4) (by omega) hz.2.2.2.1 hqk (Or.inl rfl) (s413_95 ?_)⟩
        rw [if_neg (by decide)]
        exact ih q (r + 1) B M (by omega) hp hx1 hd h0 hB hA hw hz hm H
theorem sp_sayCover {M : fx_M} (ho : pz_ok Z) (hz : mz M 0 Z) (hO : m_ok M) {n : Nat} (hn : n < 1000) (K0 : 100 < n → Q none (m_app M (t_rf 3))) (K1 : n ≤ 100 → ∀ M', mwr M M' (tCov Z n) → Q none M') : wc kc (d + 6) 413 [jR 133, jI n] M Q := by
  have h12 := ho.2.2.2.2.2.2.1
  have hw9 := wl_lt ho
  refine s413 ⟨⟨by omega, by omega⟩, fun hle => ?_, fun h => sp_sayRefusal (d := d) ⟨by omega, by omega⟩ hO (s413_11 (K0 (by omega)))⟩
  refine sp_findMasks (d := d + 4) ho hz (fun M1 f1 m1 => s413_16 (s248 (s413_21 ?_)))
  have hz1 : mz M1 0 Z := mz_frM hz (fun b j h1 h2 => f1 b j (by omega))
  rw [hz1.1, hz1.2.1, wl_fx ho]
  refine sp_firstSet (d := d + 4) (by omega) hz1.2.2.2.1 (s413_33 ?_)
  have hw1 : mwr M M1 [] := fun b j hb => by
    show M1 b j = M b j
    exact f1 b j (fun e => hb (by unfold msc; omega))
  refine sc_loop (d := d) (n := n) ho (by omega) hO (fun M' h => K1 (by omega) M' h) Z.2.2.2.1.length [] 0 [] M1 (by omega) List.Pairwise.nil (fun x h => by cases h) (fun x h => by cases h) (by rw [lfC_nil ho]; exact wl_ne ho) (by simp) ?_ (by unfold tCs; simpa using hw1) hz1 m1 (fun B' M' hB' hA' hw' hz' hm' => ?_)
  · rw [List.drop_zero, lfC_nil ho, List.nil_append, bhC, List.append_nil]
    show (cvL (rmS Z) 0 (wl Z)).map ([].reverse ++ ·) = covs Z
    simp [covs]
  · rw [nmS_0 (Nat.le_refl _)]
    rw [bhC, List.append_nil] at hA'
    subst hA'
    have hOM := mwr_ok hw' hO
    refine s413_35 ⟨⟨by omega, by omega⟩, fun _ => ⟨⟨by omega, by omega⟩, ⟨by omega, by omega⟩, ?_⟩, fun h => absurd rfl h⟩
    by_cases hgt : (n : Int) < ((covs Z).length : Nat)
    · rw [if_pos hgt]
      refine sp_sayWord (d := d + 2) (by unfold w_ok; omega) hOM (s413_118 (K1 (by omega) _ ?_))
      unfold tCov
      rw [if_pos (by omega)]
      exact mwr_tr hw' mwr_app
    · rw [if_neg hgt]
      refine sp_sayWord (d := d + 2) (by unfold w_ok; omega) hOM (s413_118 (K1 (by omega) _ ?_))
      unfold tCov
      rw [if_neg (by omega)]
      exact mwr_tr hw' mwr_app
end MCL
