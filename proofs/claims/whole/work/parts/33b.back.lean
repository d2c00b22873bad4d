/-! A puzzle's whole text is read back without a fault; its length and its bytes. -/
def rfin (e : Int) (x : Int × Int × Int × PZ) : Prop := x.1 = e ∧ x.2.1 = 0 ∧ x.2.2.1 = 0
theorem tRule_e {R : PR} {L : List Int} : tRule R ++ L = 59 :: ([114, 117, 108, 101] ++ (32 :: (knm R.1 ++ ((if hasN R.1 = true then 32 :: dgs R.2.1 else []) ++ (R.2.2.flatMap (fun c => 32 :: dgs c) ++ L))))) := by
  unfold tRule
  simp only [List.append_assoc, List.cons_append, List.nil_append]
theorem tGive_e {Z : PZ} {c : Nat} {L : List Int} (h : 0 ≤ Z.2.2.2.2.getD c (-1)) : tGive Z c ++ L = 59 :: ([103, 105, 118, 101] ++ (32 :: (dgs c ++ (32 :: (dgs (Z.2.2.2.2.getD c (-1)) ++ L))))) := by
  unfold tGive
  rw [if_pos h]
  simp only [List.append_assoc, List.cons_append, List.nil_append]
theorem tText_e {Z : PZ} : tText Z = [110, 101, 119] ++ (32 :: (dgs Z.1 ++ (32 :: (dgs Z.2.1 ++ (32 :: (dgs Z.2.2.1 ++ (Z.2.2.2.1.flatMap tRule ++ (List.range (Z.1 * Z.2.1).toNat).flatMap (tGive Z)))))))) := by
  unfold tText
  simp only [List.append_assoc, List.cons_append, List.nil_append]
theorem semi_gives {Z : PZ} : ∀ cs : List Nat, semi (cs.flatMap (tGive Z))
  | [], c, R, h => by cases h
  | x :: cs, c, R, h => by
    rw [List.flatMap_cons] at h
    by_cases hx : 0 ≤ Z.2.2.2.2.getD x (-1)
    · rw [tGive_e hx] at h
      cases h
      rfl
    · have e : tGive Z x = [] := by
        unfold tGive
        rw [if_neg hx]
      rw [e] at h
      exact semi_gives cs c R h
theorem semi_rules {G : List Int} (hG : semi G) : ∀ Rs : List PR, semi (Rs.flatMap tRule ++ G)
  | [], c, R, h => hG c R h
  | x :: Rs, c, R, h => by
    rw [List.flatMap_cons, List.append_assoc, tRule_e] at h
    cases h
    rfl
section LYX
variable {g : Int → Int} {e p : Int} {L : List Int}
theorem ly_rule {n : Int} {R : PR} (hR : pr_ok n R) (hn : n ≤ 9) (hL : semi L) (h : lyT g e p (tRule R ++ L)) : p < e ∧ g p = 59 ∧ ∃ m q, rPt g e (p + 1) = ((0, R.1, m, R.2.2, 0, 0), q, 0) ∧ 0 ≤ m ∧ m ≤ 99 ∧ lyT g e q L := by
  obtain ⟨r1, r2, r3, r4, r5, r6, r7, r8⟩ := hR
  rw [tRule_e] at h
  obtain ⟨h1, h2, h3⟩ := ly_cons h
  obtain ⟨c1, c2⟩ := ly_app h3
  have hC := ch_at (g := g) (e := e) (p := p + 1) (bs := bsP) (ws := wsP) (by decide +kernel) (by decide) (by decide) (by decide) (by decide +kernel) (k := 0) rfl c1
  obtain ⟨m, q, k1, k2, k3, k4⟩ := ly_K ⟨r1, r2⟩ ⟨r3, by omega⟩ (nds_cells hL R.2.2) c2
  have hql : q + ((R.2.2.flatMap (fun c => 32 :: dgs c) ++ L).length : Int) = e := k4.1.symm
  have hfl : R.2.2.length ≤ (R.2.2.flatMap (fun c => 32 :: dgs c)).length := by
    have gen : ∀ l : List Int, l.length ≤ (l.flatMap (fun c => 32 :: dgs c)).length := fun l => by
      induction l with
      | nil => exact Nat.le_refl _
      | cons c l ih =>
        rw [List.flatMap_cons, List.length_append, List.length_cons, List.length_cons]
        omega
    exact gen _
  rw [List.length_append] at hql
  obtain ⟨q2, w1, w2⟩ := ly_R hL R.2.2 ((e - q).toNat + 1) true q k4 (by omega) (fun _ x => by rw [x] at r5; exact absurd r5 (by decide)) (fun c hc => by
    have := r7 c hc
    omega)
  refine ⟨h1, h2, m, q2, ?_, k2, k3, w2⟩
  unfold rPt
  rw [hC]
  dsimp only
  rw [if_pos (show ((0 : Nat) : Int) = 0 from rfl), k1]
  dsimp only
  rw [w1]
theorem ly_give {Z : PZ} {c : Nat} (hc : (c : Int) < 9) (hs : Z.2.2.2.2.getD c (-1) < 4) (h0 : 0 ≤ Z.2.2.2.2.getD c (-1)) (h : lyT g e p (tGive Z c ++ L)) : p < e ∧ g p = 59 ∧ ∃ q, rPt g e (p + 1) = ((2, 0, 0, [], (c : Int), Z.2.2.2.2.getD c (-1)), q, 0) ∧ lyT g e q L := by
  rw [tGive_e h0] at h
  obtain ⟨h1, h2, h3⟩ := ly_cons h
  obtain ⟨c1, c2⟩ := ly_app h3
  have hC := ch_at (g := g) (e := e) (p := p + 1) (bs := bsP) (ws := wsP) (by decide +kernel) (by decide) (by decide) (by decide) (by decide +kernel) (k := 2) rfl c1
  have hA := ly_BN3 (v := (c : Int)) ⟨by omega, by omega⟩ (nds_cons (by unfold isD; omega)) c2
  have hB := ly_BN1 ⟨h0, by omega⟩ hA.2
  refine ⟨h1, h2, _, ?_, hB.2⟩
  unfold rPt
  rw [hC]
  dsimp only
  rw [if_neg (show ¬ ((2 : Nat) : Int) = 0 by decide), if_neg (show ¬ ((2 : Nat) : Int) = 1 by decide), hA.1]
  dsimp only
  rw [hB.1]
theorem rTx_go {f : Nat} {Y : PZ} {o : PO} {q : Int} (h1 : p < e) (h2 : g p = 59) (h3 : rPt g e (p + 1) = (o, q, 0)) (h4 : (q_op Y o).1 = 0) : rTx g e (f + 1) p 0 0 Y = rTx g e f q 0 0 (q_op Y o).2 := by
  rw [rTx, if_pos ⟨rfl, h1, h2⟩, h3]
  dsimp only
  rw [if_pos ⟨rfl, rfl⟩, h4]
/-- sizes alike -/
def zsm (Y Z : PZ) : Prop := Y.1 = Z.1 ∧ Y.2.1 = Z.2.1 ∧ Y.2.2.1 = Z.2.2.1
theorem ly_gives {Z : PZ} (ho : pz_ok Z) : ∀ (cs : List Nat) (f : Nat) (Y : PZ) (p : Int), lyT g e p (cs.flatMap (tGive Z)) → (∀ c ∈ cs, (c : Int) < Z.1 * Z.2.1) → zsm Y Z → e < p + f → rfin e (rTx g e f p 0 0 Y)
  | [], 0, Y, p, h, _, _, hf => by
    have := ly_nil h
    omega
  | [], f + 1, Y, p, h, _, _, _ => by
    have := ly_nil h
    rw [rTx, if_neg (by omega)]
    exact ⟨this.symm, rfl, rfl⟩
  | c :: cs, f, Y, p, h, hc, hY, hf => by
    have h9 := pz_n ho
    have hcn := hc c (List.mem_cons_self ..)
    have hcs : ∀ x ∈ cs, (x : Int) < Z.1 * Z.2.1 := fun x hx => hc x (List.mem_cons_of_mem _ hx)
    rw [List.flatMap_cons] at h
    by_cases hx : 0 ≤ Z.2.2.2.2.getD c (-1)
    · have hlt : c < Z.2.2.2.2.length := by
        rw [ho.2.2.2.2.2.2.2.2.1]
        omega
      have hm : Z.2.2.2.2.getD c (-1) ∈ Z.2.2.2.2 := by
        rw [List.getD_eq_getElem?_getD, List.getElem?_eq_getElem hlt]
        exact List.getElem_mem hlt
      have hsb := ho.2.2.2.2.2.2.2.2.2.1 _ hm
      have hs4 := ho.2.2.2.2.2.1
      obtain ⟨h1, h2, q, h3, h4⟩ := ly_give (by omega) (by omega) hx h
      have hq : p < q := by
        have l1 := h.1
        have l2 := h4.1
        rw [tGive_e hx] at l1
        simp only [List.length_cons, List.length_append] at l1
        omega
      cases f with
      | zero => omega
      | succ f =>
        have eg : q_op Y (2, 0, 0, [], (c : Int), Z.2.2.2.2.getD c (-1)) = (0, z_give Y c (Z.2.2.2.2.getD c (-1))) := by
          unfold q_op
          dsimp only
          rw [if_neg (by decide), if_neg (by decide)]
          unfold q_give
          rw [if_pos ⟨by omega, by rw [hY.1, hY.2.1]; exact hcn⟩, if_neg (by rw [hY.2.2]; omega)]
        rw [rTx_go h1 h2 h3 (by rw [eg]), eg]
        exact ly_gives ho cs f _ q h4 hcs hY (by omega)
    · have ee : tGive Z c = [] := by
        unfold tGive
        rw [if_neg hx]
      rw [ee] at h
      exact ly_gives ho cs f Y p h hcs hY hf
theorem ly_rules {Z : PZ} (ho : pz_ok Z) : ∀ (Rs : List PR) (f : Nat) (Y : PZ) (p : Int), lyT g e p (Rs.flatMap tRule ++ (List.range (Z.1 * Z.2.1).toNat).flatMap (tGive Z)) → (∀ R ∈ Rs, pr_ok (Z.1 * Z.2.1) R) → zsm Y Z → Y.2.2.2.1.length + Rs.length ≤ 12 → e < p + f → rfin e (rTx g e f p 0 0 Y)
  | [], f, Y, p, h, _, hY, _, hf => ly_gives ho _ f Y p h (fun c hc => by
      have := List.mem_range.mp hc
      omega) hY hf
  | R :: Rs, f, Y, p, h, hR, hY, hl, hf => by
    have h9 := pz_n ho
    have hRR := hR R (List.mem_cons_self ..)
    rw [List.flatMap_cons, List.append_assoc] at h
    rw [List.length_cons] at hl
    obtain ⟨h1, h2, m, q, h3, h4, h5, h6⟩ := ly_rule hRR h9.2 (semi_rules (semi_gives _) Rs) h
    have hq : p < q := by
      have l1 := h.1
      have l2 := h6.1
      rw [List.length_append] at l1
      have : 0 < (tRule R).length := by
        unfold tRule
        rw [List.append_assoc, List.append_assoc, List.length_append]
        exact Nat.lt_of_lt_of_le (show 0 < 6 by decide) (Nat.le_add_right 6 _)
      omega
    cases f with
    | zero =>
      have l1 := h.1
      omega
    | succ f =>
      have hok : okb (Y.1 * Y.2.1) R.2.2 = true := by
        unfold okb
        rw [hY.1, hY.2.1]
        exact decide_eq_true ⟨hRR.2.2.2.2.1, hRR.2.2.2.2.2.1, hRR.2.2.2.2.2.2.1, hRR.2.2.2.2.2.2.2⟩
      have eg : q_op Y (0, R.1, m, R.2.2, 0, 0) = (0, z_add Y (R.1, m, R.2.2)) := by
        unfold q_op
        dsimp only
        rw [if_pos rfl]
        unfold q_rule
        rw [if_pos hok, if_neg (by omega), if_neg (by omega)]
      rw [rTx_go h1 h2 h3 (by rw [eg]), eg]
      refine ly_rules ho Rs f _ q h6 (fun x hx => hR x (List.mem_cons_of_mem _ hx)) hY ?_ (by omega)
      show (Y.2.2.2.1 ++ [(R.1, m, R.2.2)]).length + Rs.length ≤ 12
      rw [List.length_append, List.length_singleton]
      omega
theorem ly_text {Z Y : PZ} (ho : pz_ok Z) (h : lyT g e p (tText Z)) : rfin e (rText g e p 0 0 Y) := by
  obtain ⟨o1, o2, o3, o4, o5, o6, o7, o8, o9⟩ := ho
  rw [tText_e] at h
  obtain ⟨c1, c2⟩ := ly_app h
  have hC := ch_at (g := g) (e := e) (p := p) (bs := bsN) (ws := wsN) (by decide +kernel) (by decide) (by decide) (by decide) (by decide +kernel) (k := 0) rfl c1
  have hA := ly_BN1 (v := Z.1) ⟨by omega, by omega⟩ c2
  have hB := ly_BN1 (v := Z.2.1) ⟨by omega, by omega⟩ hA.2
  have hD := ly_BN1 (v := Z.2.2.1) ⟨by omega, by omega⟩ hB.2
  have hl := hD.2.1
  unfold rText rZ3 rZ2 rZ1
  rw [hC]
  dsimp only
  rw [hA.1]
  dsimp only
  rw [hB.1]
  dsimp only
  rw [hD.1]
  dsimp only
  rw [if_pos ⟨rfl, rfl⟩]
  unfold q_size
  rw [if_pos ⟨o1, o2, o3, o4, o5, o6⟩]
  refine ly_rules ⟨o1, o2, o3, o4, o5, o6, o7, o8, o9⟩ Z.2.2.2.1 _ _ _ hD.2 o8 ⟨rfl, rfl, rfl⟩ ?_ ?_
  · show 0 + Z.2.2.2.1.length ≤ 12
    omega
  · generalize p + (([110, 101, 119] : List Int).length : Int) + 2 + 2 + 2 = y at hl ⊢
    omega
end LYX
theorem fm_len {α : Type} {f : α → List Int} {m : Nat} : ∀ l : List α, (∀ x ∈ l, (f x).length ≤ m) → (l.flatMap f).length ≤ m * l.length
  | [], _ => Nat.zero_le _
  | x :: l, h => by
    have ih := fm_len (f := f) (m := m) l (fun y hy => h y (List.mem_cons_of_mem _ hy))
    have hx := h x (List.mem_cons_self ..)
    rw [List.flatMap_cons, List.length_append, List.length_cons, Nat.mul_add, Nat.mul_one]
    omega
theorem dgs_b {v : Int} (h : 0 ≤ v ∧ v < 100) : (dgs v).length ≤ 2 ∧ ∀ c ∈ dgs v, 48 ≤ c ∧ c ≤ 57 := by
  by_cases hv : v < 10
  · rw [dgs_1 ⟨h.1, hv⟩]
    refine ⟨by show 1 ≤ 2; omega, fun c hc => ?_⟩
    rw [List.mem_singleton.mp hc]
    omega
  · rw [dgs_2 ⟨by omega, h.2⟩]
    refine ⟨by show 2 ≤ 2; omega, fun c hc => ?_⟩
    rcases List.mem_cons.mp hc with e | e
    · rw [e]
      omega
    · rw [List.mem_singleton.mp e]
      omega
theorem dgs_b1 {v : Int} (h : 0 ≤ v ∧ v < 10) : (dgs v).length = 1 := by
  rw [dgs_1 h]
  rfl
theorem lit_b1 : ∀ x ∈ ([59, 114, 117, 108, 101, 32] : List Int), 0 ≤ x ∧ x ≤ 255 := by decide
theorem lit_b2 : ∀ x ∈ ([59, 103, 105, 118, 101, 32] : List Int), 0 ≤ x ∧ x ≤ 255 := by decide
theorem lit_b3 : ∀ x ∈ ([110, 101, 119] : List Int), 0 ≤ x ∧ x ≤ 255 := by decide
theorem knm_b : ∀ k : Fin 8, (knm ((k : Nat) : Int)).length + (if hasN ((k : Nat) : Int) = true then 3 else 0) ≤ 8 ∧ ∀ c ∈ knm ((k : Nat) : Int), 0 ≤ c ∧ c ≤ 255 := by decide +kernel
theorem tRule_b {n : Int} {R : PR} (h : pr_ok n R) (hn : n ≤ 9) : (tRule R).length ≤ 22 ∧ ∀ c ∈ tRule R, 0 ≤ c ∧ c ≤ 255 := by
  obtain ⟨r1, r2, r3, r4, r5, r6, r7, r8⟩ := h
  have hk := knm_b ⟨R.1.toNat, by omega⟩
  have ek : (((⟨R.1.toNat, by omega⟩ : Fin 8) : Nat) : Int) = R.1 := by
    dsimp only
    omega
  rw [ek] at hk
  have hd := dgs_b (v := R.2.1) ⟨r3, by omega⟩
  have hc : ∀ c ∈ R.2.2, (32 :: dgs c).length ≤ 2 ∧ ∀ x ∈ 32 :: dgs c, 0 ≤ x ∧ x ≤ 255 := fun c hc => by
    have h1 := r7 c hc
    have h2 := dgs_b (v := c) ⟨h1.1, by omega⟩
    refine ⟨by rw [List.length_cons, dgs_b1 ⟨h1.1, by omega⟩]; omega, fun x hx => ?_⟩
    rcases List.mem_cons.mp hx with e | e
    · rw [e]
      omega
    · have := h2.2 x e
      omega
  have hf := fm_len (f := fun c => 32 :: dgs c) (m := 2) R.2.2 (fun c hx => (hc c hx).1)
  have hN : (if hasN R.1 = true then 32 :: dgs R.2.1 else []).length ≤ (if hasN R.1 = true then 3 else 0) ∧ ∀ x ∈ (if hasN R.1 = true then 32 :: dgs R.2.1 else []), 0 ≤ x ∧ x ≤ 255 := by
    split
    · refine ⟨by rw [List.length_cons]; omega, fun x hx => ?_⟩
      rcases List.mem_cons.mp hx with e | e
      · rw [e]
        omega
      · have := hd.2 x e
        omega
    · exact ⟨Nat.zero_le _, fun x hx => by cases hx⟩
  unfold tRule
  refine ⟨?_, fun x hx => ?_⟩
  · rw [List.length_append, List.length_append, List.length_append, show ([59, 114, 117, 108, 101, 32] : List Int).length = 6 from rfl]
    omega
  · rcases List.mem_append.mp hx with e | e
    · rcases List.mem_append.mp e with e | e
      · rcases List.mem_append.mp e with e | e
        · exact lit_b1 x e
        · exact hk.2 x e
      · exact hN.2 x e
    · obtain ⟨c, c1, c2⟩ := List.mem_flatMap.mp e
      exact (hc c c1).2 x c2
theorem tGive_b {Z : PZ} (ho : pz_ok Z) {c : Nat} (hc : c < 9) : (tGive Z c).length ≤ 9 ∧ ∀ x ∈ tGive Z c, 0 ≤ x ∧ x ≤ 255 := by
  have h1 := dgs_b (v := (c : Int)) ⟨by omega, by omega⟩
  unfold tGive
  split
  · rename_i h0
    have hlt : c < Z.2.2.2.2.length := by
      rw [ho.2.2.2.2.2.2.2.2.1]
      omega
    have hm : Z.2.2.2.2.getD c (-1) ∈ Z.2.2.2.2 := by
      rw [List.getD_eq_getElem?_getD, List.getElem?_eq_getElem hlt]
      exact List.getElem_mem hlt
    have hsb := ho.2.2.2.2.2.2.2.2.2.1 _ hm
    have hs4 := ho.2.2.2.2.2.1
    have h2 := dgs_b (v := Z.2.2.2.2.getD c (-1)) ⟨h0, by omega⟩
    refine ⟨?_, fun x hx => ?_⟩
    · rw [List.length_append, List.length_append, show ([59, 103, 105, 118, 101, 32] : List Int).length = 6 from rfl, List.length_cons, dgs_b1 ⟨by omega, by omega⟩, dgs_b1 ⟨h0, by omega⟩]
      omega
    · rcases List.mem_append.mp hx with e | e
      · rcases List.mem_append.mp e with e | e
        · exact lit_b2 x e
        · have := h1.2 x e
          omega
      · rcases List.mem_cons.mp e with e | e
        · rw [e]
          omega
        · have := h2.2 x e
          omega
  · exact ⟨Nat.zero_le _, fun x hx => by cases hx⟩
theorem tText_b {Z : PZ} (ho : pz_ok Z) : (tText Z).length ≤ 354 ∧ ∀ x ∈ tText Z, 0 ≤ x ∧ x ≤ 255 := by
  have h9 := pz_n ho
  obtain ⟨o1, o2, o3, o4, o5, o6, o7, o8, o9⟩ := ho
  have d1 := dgs_b (v := Z.1) ⟨by omega, by omega⟩
  have d2 := dgs_b (v := Z.2.1) ⟨by omega, by omega⟩
  have d3 := dgs_b (v := Z.2.2.1) ⟨by omega, by omega⟩
  have l1 := dgs_b1 (v := Z.1) ⟨by omega, by omega⟩
  have l2 := dgs_b1 (v := Z.2.1) ⟨by omega, by omega⟩
  have l3 := dgs_b1 (v := Z.2.2.1) ⟨by omega, by omega⟩
  have hr := fm_len (f := tRule) (m := 22) Z.2.2.2.1 (fun R hR => (tRule_b (o8 R hR) h9.2).1)
  have hg := fm_len (f := tGive Z) (m := 9) (List.range (Z.1 * Z.2.1).toNat) (fun c hc => (tGive_b ⟨o1, o2, o3, o4, o5, o6, o7, o8, o9⟩ (by have := List.mem_range.mp hc; omega)).1)
  rw [List.length_range] at hg
  rw [tText_e]
  refine ⟨?_, fun x hx => ?_⟩
  · simp only [List.length_append, List.length_cons, List.length_nil]
    omega
  · rcases List.mem_append.mp hx with e | e
    · exact lit_b3 x e
    · rcases List.mem_cons.mp e with e | e
      · rw [e]
        omega
      · rcases List.mem_append.mp e with e | e
        · have := d1.2 x e
          omega
        · rcases List.mem_cons.mp e with e | e
          · rw [e]
            omega
          · rcases List.mem_append.mp e with e | e
            · have := d2.2 x e
              omega
            · rcases List.mem_cons.mp e with e | e
              · rw [e]
                omega
              · rcases List.mem_append.mp e with e | e
                · have := d3.2 x e
                  omega
                · rcases List.mem_append.mp e with e | e
                  · obtain ⟨R, R1, R2⟩ := List.mem_flatMap.mp e
                    exact (tRule_b (o8 R R1) h9.2).2 x R2
                  · obtain ⟨c, c1, c2⟩ := List.mem_flatMap.mp e
                    exact (tGive_b ⟨o1, o2, o3, o4, o5, o6, o7, o8, o9⟩ (by have := List.mem_range.mp c1; omega)).2 x c2
