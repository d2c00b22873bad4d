/-! The table of the contest, on both sides. -/
/-- points and time that an item gives a person -/
def ciP (p : Nat) (t : CI) : Int := if 0 ≤ t.2.2.2.2 p then (if t.2.2.1 - t.2.2.2.1 p < 0 then 0 else t.2.2.1 - t.2.2.2.1 p) else 0
def ciT (p : Nat) (t : CI) : Int := if 0 ≤ t.2.2.2.2 p then t.2.2.2.2 p + 20 * t.2.2.2.1 p else 0
def ptP (C : List CI) (p : Nat) : Int := (C.map (ciP p)).sum
def tmP (C : List CI) (p : Nat) : Int := (C.map (ciT p)).sum
theorem sum_bd {f : CI → Int} {B : Int} (hB : 0 ≤ B) : ∀ {C : List CI}, (∀ t ∈ C, 0 ≤ f t ∧ f t ≤ B) → 0 ≤ (C.map f).sum ∧ (C.map f).sum ≤ C.length * B
  | [], _ => by simp
  | t :: C, h => by
    have ih := sum_bd (f := f) hB (C := C) (fun z hz => h z (List.mem_cons_of_mem _ hz))
    have hy := h t (List.mem_cons_self ..)
    rw [List.map_cons, List.sum_cons, List.length_cons]
    have e : ((C.length + 1 : Nat) : Int) * B = (C.length : Int) * B + B := by
      rw [show ((C.length + 1 : Nat) : Int) = (C.length : Int) + 1 by omega, Int.add_mul, Int.one_mul]
    rw [e]
    omega
theorem ci_bd {k : Nat} (hk : k ≤ 1000) {t : CI} (h : ci_ok k t) {p : Nat} (hp : p < 3) : 0 ≤ ciP p t ∧ ciP p t ≤ 1000 ∧ 0 ≤ ciT p t ∧ ciT p t ≤ 21000 := by
  obtain ⟨_, _, h1, h2, h3⟩ := h
  have h4 := h3 p hp
  unfold ciP ciT
  by_cases hr : 0 ≤ t.2.2.2.2 p
  · rw [if_pos hr, if_pos hr]
    split <;> omega
  · rw [if_neg hr, if_neg hr]
    omega
theorem sum_all {k : Nat} {C : List CI} (ho : ct_ok k C) {p : Nat} (hp : p < 3) : 0 ≤ ptP C p ∧ ptP C p ≤ 6000 ∧ 0 ≤ tmP C p ∧ tmP C p ≤ 126000 := by
  have h6 := ho.2.1
  have a := sum_bd (f := ciP p) (B := 1000) (by omega) (C := C) (fun t ht => by have := ci_bd ho.1 (ho.2.2 t ht) hp; omega)
  have b := sum_bd (f := ciT p) (B := 21000) (by omega) (C := C) (fun t ht => by have := ci_bd ho.1 (ho.2.2 t ht) hp; omega)
  unfold ptP tmP
  omega
/-- one person ahead of another -/
def ahd (C : List CI) (q p : Nat) : Bool := decide (ptP C p < ptP C q) || (decide (ptP C q = ptP C p) && decide (tmP C q < tmP C p))
def ordC (a b c : Bool) : List Nat := if (if a then c else b) then 2 :: (if a then [1, 0] else [0, 1]) else if a then 1 :: (if b then [2, 0] else [0, 2]) else 0 :: (if c then [2, 1] else [1, 2])
def tPer (C : List CI) (p : Nat) : List Int := dgs (p : Int) ++ 32 :: dgs (ptP C p) ++ 32 :: dgs (tmP C p) ++ [59]
def tTab (C : List CI) : List Int := (ordC (ahd C 1 0) (ahd C 2 0) (ahd C 2 1)).flatMap (tPer C)
/-- the best so far -/
def stB (C : List CI) (m : Nat) (v : Int) (p : Nat) : Int := if m.testBit p = true then v else if v < 0 then (p : Int) else if ahd C p v.toNat = true then (p : Int) else v
def bst (C : List CI) (m : Nat) : Int := stB C m (stB C m (stB C m (-1) 0) 1) 2
section CTB
variable {L : Nat} {xs : Nat → Int32} {kc : List va_E} {d : Nat} {Q : Option fx_V → fx_M → Prop} {C : List CI} {k : Nat}
theorem sp_addUp3 {M : fx_M} (hC : cct M C) (ho : ct_ok k C) {p : Nat} (hp : p < 3) (K : ∀ M', (∀ b j, ¬ ((b = 69 ∨ b = 70) ∧ j = (p : Int)) → M' b j = M b j) → M' 69 (p : Int) = ptP C p → M' 70 (p : Int) = tmP C p → Q none M') : wc kc (d + 1) 188 [jR 62, jI p] M Q := by
  have h6 := ho.2.1
  have hk := ho.1
  refine s188 ⟨⟨by omega, by omega⟩, ⟨by omega, by omega⟩, ?_⟩
  have z : ∀ (u i : Nat) (N : fx_M), i + u = C.length → (∀ b j, ¬ ((b = 69 ∨ b = 70) ∧ j = (p : Int)) → N b j = M b j) → N 69 (p : Int) = ((C.take i).map (ciP p)).sum → N 70 (p : Int) = ((C.take i).map (ciT p)).sum → wp kc (d + 1) 188 16 [some (jR 62), some (jI p), some (jI i), none] [] N Q := by
    intro u
    induction u with
    | zero =>
      intro i N hi fN e1 e2
      rw [List.take_of_length_le (by omega)] at e1 e2
      refine s188_16 ?_
      rw [fN 62 0 (by omega), hC.1]
      exact ⟨⟨⟨by omega, by omega⟩, ⟨by omega, by omega⟩⟩, fun _ => K N fN e1 e2, fun h => by omega⟩
    | succ u ih =>
      intro i N hi fN e1 e2
      have hil : i < C.length := by omega
      have ht := List.getElem?_eq_getElem hil
      obtain ⟨_, _, _, c4, c5⟩ := hC.2 i _ ht
      have hok := ho.2.2 _ (List.getElem_mem hil)
      have hb := ci_bd hk hok hp
      have c5p := c5 p hp
      have h3 := hok.2.2.2.2 p hp
      have hpt := hok.2.2.1
      have hpt2 := hok.2.2.2.1
      have et : (C.take (i + 1)) = C.take i ++ [C[i]] := List.take_succ_eq_append_getElem hil
      have s1 : ((C.take (i + 1)).map (ciP p)).sum = ((C.take i).map (ciP p)).sum + ciP p C[i] := by rw [et, List.map_append, List.map_singleton, sum_app1]
      have s2 : ((C.take (i + 1)).map (ciT p)).sum = ((C.take i).map (ciT p)).sum + ciT p C[i] := by rw [et, List.map_append, List.map_singleton, sum_app1]
      refine s188_16 ?_
      rw [fN 62 0 (by omega), hC.1, fN 68 _ (by omega), c5p.2, fN 66 _ (by omega), c4, fN 67 _ (by omega), c5p.1]
      refine ⟨⟨⟨by omega, by omega⟩, ⟨by omega, by omega⟩⟩, fun h => by omega, fun _ => ⟨⟨by omega, by omega⟩, ⟨by omega, by omega⟩, fun hneg => ?_, fun hpos => ⟨⟨by omega, by omega⟩, ⟨by omega, by omega⟩, ⟨by omega, by omega⟩, ⟨by omega, by omega⟩, ⟨by omega, by omega⟩, ⟨by omega, by omega⟩, ⟨by omega, by omega⟩, ⟨by omega, by omega⟩, ⟨by omega, by omega⟩, ?_⟩⟩⟩
      · have z1 : ciP p C[i] = 0 := by
          unfold ciP
          rw [if_neg (by omega)]
        have z2 : ciT p C[i] = 0 := by
          unfold ciT
          rw [if_neg (by omega)]
        have nx := ih (i + 1) N (by omega) fN (by rw [s1, z1, e1]; omega) (by rw [s2, z2, e2]; omega)
        rw [show ((i + 1 : Nat) : Int) = (i : Int) + 1 by omega] at nx
        exact nx
      · have z1 : ciP p C[i] = (if C[i].2.2.1 - C[i].2.2.2.1 p < 0 then 0 else C[i].2.2.1 - C[i].2.2.2.1 p) := by
          unfold ciP
          rw [if_pos hpos]
        have z2 : ciT p C[i] = C[i].2.2.2.2 p + 20 * C[i].2.2.2.1 p := by
          unfold ciT
          rw [if_pos hpos]
        rw [← z1]
        have nx := ih (i + 1) (fx_up (fx_up N 69 (p : Int) (N 69 (p : Int) + ciP p C[i])) 70 (p : Int) (N 70 (p : Int) + (C[i].2.2.2.2 p + 20 * C[i].2.2.2.1 p))) (by omega) (fun b j hb2 => by rw [fx_up_ne (by omega), fx_up_ne (by omega), fN b j hb2]) (by rw [fx_up_na (by decide), fx_up_self, s1, e1]) (by rw [fx_up_self, s2, e2, z2])
        rw [show ((i + 1 : Nat) : Int) = (i : Int) + 1 by omega] at nx
        exact nx
  exact z C.length 0 _ (by omega) (fun b j hb => by rw [fx_up_ne (by omega), fx_up_ne (by omega)]) (by rw [fx_up_na (by decide), fx_up_self]; rfl) (by rw [fx_up_self]; rfl)
/-- sums as they stand -/
def sums (M : fx_M) (C : List CI) : Prop := ∀ p : Nat, p < 3 → M 69 (p : Int) = ptP C p ∧ M 70 (p : Int) = tmP C p
theorem sp_isAhead {M : fx_M} (hs : sums M C) (ho : ct_ok k C) {q p : Nat} (hq : q < 3) (hp : p < 3) (K : Q (some (jI (bI (ahd C q p)))) M) : wc kc (d + 1) 189 [jR 62, jI q, jI p] M Q := by
  have b1 := sum_all ho hq
  have b2 := sum_all ho hp
  refine s189 ?_
  rw [(hs q hq).1, (hs p hp).1, (hs q hq).2, (hs p hp).2]
  have e : (if ptP C p < ptP C q then (1 : Int) else if ptP C q = ptP C p then (if tmP C q < tmP C p then 1 else 0) else 0) = bI (ahd C q p) := by
    unfold bI ahd
    by_cases h1 : ptP C p < ptP C q
    · simp [h1]
    · by_cases h2 : ptP C q = ptP C p
      · by_cases h3 : tmP C q < tmP C p
        · simp [h2, h3]
        · simp [h2, h3]
      · simp [h1, h2]
  rw [e]
  have hb : 0 ≤ bI (ahd C q p) ∧ bI (ahd C q p) ≤ 1 := by
    unfold bI
    split <;> omega
  exact ⟨⟨by omega, by omega⟩, ⟨by omega, by omega⟩, ⟨by omega, by omega⟩, ⟨by omega, by omega⟩, fun _ => ⟨by omega, by omega⟩, fun _ => ⟨by omega, by omega⟩, fun _ => ⟨by omega, by omega⟩, fun _ => ⟨by omega, by omega⟩, fun _ _ => ⟨by omega, by omega⟩, fun _ _ => ⟨by omega, by omega⟩, fun _ _ => ⟨by omega, by omega⟩, fun _ _ => ⟨by omega, by omega⟩, hb, K⟩
theorem stB_b {m : Nat} {v : Int} {p : Nat} (hv : -1 ≤ v ∧ v < 3) (hp : p < 3) : -1 ≤ stB C m v p ∧ stB C m v p < 3 := by
  unfold stB
  repeat' split
  all_goals omega
/-- one person looked at -/
theorem tb_one {M : fx_M} (hs : sums M C) (ho : ct_ok k C) {m : Nat} (hm : m < 8) {i : Int} {v : Int} (hv : -1 ≤ v ∧ v < 3) {p : Nat} (hp : p < 3) (K : wp kc (d + 2) 187 33 [some (jR 62), some (jR 3), some (jI m), some (jI i), some (jI (stB C m v p)), some (jI ((p : Int) + 1))] [] M Q) : wp kc (d + 2) 187 33 [some (jR 62), some (jR 3), some (jI m), some (jI i), some (jI v), some (jI p)] [] M Q := by
  refine s187_33 out3 ?_
  rw [bit_fx (by omega) (by omega)]
  unfold stB at K
  by_cases hb : m.testBit p = true
  · rw [if_pos hb] at K ⊢
    exact ⟨⟨by omega, by omega⟩, fun h => by omega, fun _ => ⟨⟨by omega, by omega⟩, fun _ => K, fun h => by omega⟩⟩
  · rw [if_neg hb] at K ⊢
    refine ⟨⟨by omega, by omega⟩, fun h => by omega, fun _ => ⟨⟨by omega, by omega⟩, fun h => absurd rfl h, fun _ => ⟨⟨by omega, by omega⟩, fun hneg => ?_, fun hpos => ?_⟩⟩⟩
    · rw [if_pos hneg] at K
      exact K
    · rw [if_neg (by omega)] at K
      have e : ((v.toNat : Nat) : Int) = v := by omega
      have sp := sp_isAhead (kc := kc) (d := d) (Q := fun w M1 => wp kc (d + 2) 187 61 [some (jR 62), some (jR 3), some (jI m), some (jI i), some (jI v), some (jI p)] (w.toList ++ []) M1 Q) hs ho hp (show v.toNat < 3 by omega) (s187_61 out3 ?_)
      · rw [e] at sp
        exact sp
      · unfold bI
        by_cases ha : ahd C p v.toNat = true
        · rw [if_pos ha] at K ⊢
          rw [if_neg (by decide)]
          exact ⟨⟨by omega, by omega⟩, K⟩
        · rw [if_neg ha] at K ⊢
          rw [if_pos rfl]
          exact ⟨⟨by omega, by omega⟩, K⟩
theorem sums_app {M : fx_M} {cs : List Int} (h : sums M C) : sums (o_app M 3 cs) C := fun p hp => by
  rw [o_app_n3 (by omega) (by decide), o_app_n3 (by omega) (by decide)]
  exact h p hp
/-- a person told -/
theorem tb_tell {M : fx_M} (hs : sums M C) (ho : ct_ok k C) (hO : o_ok M 3) {m : Nat} (hm : m < 8) {i : Int} (hi : 0 ≤ i ∧ i < 3) {b : Nat} (hb3 : b < 3) (hb : bst C m = (b : Int)) (K : wp kc (d + 2) 187 22 [some (jR 62), some (jR 3), some (jI ((m ||| 2 ^ b : Nat) : Int)), some (jI (i + 1)), none, none] [] (o_app M 3 (tPer C b)) Q) : wp kc (d + 2) 187 22 [some (jR 62), some (jR 3), some (jI m), some (jI i), none, none] [] M Q := by
  have v0 := stB_b (C := C) (m := m) (v := -1) (p := 0) ⟨by omega, by omega⟩ (by omega)
  have v1 := stB_b (C := C) (m := m) (v := stB C m (-1) 0) (p := 1) v0 (by omega)
  have bs := sum_all ho hb3
  refine s187_22 out3 ⟨⟨by omega, by omega⟩, fun h => by omega, fun _ => ?_⟩
  refine tb_one (p := 0) hs ho hm ⟨by omega, by omega⟩ (by omega) (tb_one (p := 1) hs ho hm v0 (by omega) (tb_one (p := 2) hs ho hm v1 (by omega) ?_))
  have e3 : stB C m (stB C m (stB C m (-1) 0) 1) 2 = (b : Int) := hb
  rw [e3]
  refine s187_33 out3 ?_
  rw [if_neg (show ¬ (b : Int) < 0 by omega)]
  have hp8 : (2 : Nat) ^ b < 8 := Nat.pow_lt_pow_right (n := 3) (by decide) hb3
  have eor : fx_or (m : Int) (fx_shl 1 (b : Int)) = ((m ||| 2 ^ b : Nat) : Int) := by
    rw [fx_shl_1 ⟨by omega, by omega⟩, Int.toNat_natCast, fx_or_nat ⟨by omega, by omega⟩ ⟨Int.natCast_nonneg _, by omega⟩, Int.toNat_natCast, Int.toNat_natCast]
  rw [eor]
  refine ⟨⟨by omega, by omega⟩, fun _ => ⟨⟨by omega, by omega⟩, sp_number (d := d) out3 hO (by omega) (by omega) (s187_95 out3 (sp_put (d := d) out3 (o_ok_app hO) ⟨by omega, by omega⟩ (s187_101 out3 ?_)))⟩, fun h => by omega⟩
  rw [o_put_n3 (b := 69) (by omega) (by decide), o_app_n3 (b := 69) (by omega) (by decide), (hs b hb3).1]
  refine ⟨⟨by omega, by omega⟩, sp_number (d := d) out3 (o_ok_put (o_ok_app hO)) (by omega) (by omega) (s187_112 out3 (sp_put (d := d) out3 (o_ok_app (o_ok_put (o_ok_app hO))) ⟨by omega, by omega⟩ (s187_118 out3 ?_)))⟩
  rw [o_put_n3 (b := 70) (by omega) (by decide), o_app_n3 (b := 70) (by omega) (by decide), o_put_n3 (b := 70) (by omega) (by decide), o_app_n3 (b := 70) (by omega) (by decide), (hs b hb3).2]
  refine ⟨⟨by omega, by omega⟩, sp_number (d := d) out3 (o_ok_put (o_ok_app (o_ok_put (o_ok_app hO)))) (by omega) (by omega) (s187_129 out3 (sp_put (d := d) out3 (o_ok_app (o_ok_put (o_ok_app (o_ok_put (o_ok_app hO))))) ⟨by omega, by omega⟩ (s187_135 out3 ?_)))⟩
  have e : o_put (o_app (o_put (o_app (o_put (o_app M 3 (dgs (b : Int))) 3 32) 3 (dgs (ptP C b))) 3 32) 3 (dgs (tmP C b))) 3 59 = o_app M 3 (tPer C b) := by
    unfold tPer
    rw [← o_app_app, ← o_app_app, ← o_app_app]
    rfl
  rw [e]
  exact K
theorem ord_cls : ∀ a b c : Bool, ∃ x y z : Nat, x < 3 ∧ y < 3 ∧ z < 3 ∧ ordC a b c = [x, y, z] := by
  intro a b c
  cases a <;> cases b <;> cases c <;> exact ⟨_, _, _, by decide, by decide, by decide, rfl⟩
theorem bst_ord {x y z : Nat} (h : ordC (ahd C 1 0) (ahd C 2 0) (ahd C 2 1) = [x, y, z]) : bst C 0 = x ∧ bst C (0 ||| 2 ^ x) = y ∧ bst C (0 ||| 2 ^ x ||| 2 ^ y) = z := by
  cases ha : ahd C 1 0 <;> cases hb : ahd C 2 0 <;> cases hc : ahd C 2 1 <;> rw [ha, hb, hc] at h <;> simp [ordC] at h <;> obtain ⟨rfl, rfl, rfl⟩ := h <;> refine ⟨?_, ?_, ?_⟩ <;> simp (config := { decide := true }) [bst, stB, ha, hb, hc]
theorem sp_writeTable {M : fx_M} (hC : cct M C) (ho : ct_ok k C) (hO : o_ok M 3) (K : ∀ M', (∀ b j, b ≠ 69 → b ≠ 70 → M' b j = o_app M 3 (tTab C) b j) → Q none M') : wc kc (d + 2) 187 [jR 62, jR 3] M Q := by
  have fin : ∀ N : fx_M, (∀ b j, b ≠ 69 → b ≠ 70 → N b j = M b j) → sums N C → wp kc (d + 2) 187 22 [some (jR 62), some (jR 3), some (jI 0), some (jI 0), none, none] [] N Q := fun N fN hs => by
    obtain ⟨x, y, z, hx, hy, hz, hord⟩ := ord_cls (ahd C 1 0) (ahd C 2 0) (ahd C 2 1)
    obtain ⟨b1, b2, b3⟩ := bst_ord hord
    have hON : o_ok N 3 := by
      unfold o_ok
      rw [fN 3 1 (by decide) (by decide)]
      exact hO
    have p8 : ∀ {n : Nat}, n < 3 → (2 : Nat) ^ n < 8 := fun h => Nat.pow_lt_pow_right (n := 3) (by decide) h
    have m1 : 0 ||| 2 ^ x < 8 := Nat.or_lt_two_pow (n := 3) (by decide) (p8 hx)
    have m2 : 0 ||| 2 ^ x ||| 2 ^ y < 8 := Nat.or_lt_two_pow (n := 3) m1 (p8 hy)
    refine tb_tell (m := 0) (i := 0) hs ho hON (by omega) ⟨by omega, by omega⟩ hx b1 (tb_tell (i := 0 + 1) (sums_app hs) ho (o_ok_app hON) m1 ⟨by omega, by omega⟩ hy b2 (tb_tell (i := 0 + 1 + 1) (sums_app (sums_app hs)) ho (o_ok_app (o_ok_app hON)) m2 ⟨by omega, by omega⟩ hz b3 ?_))
    refine s187_22 out3 ⟨⟨by omega, by omega⟩, fun _ => K _ (fun b j h1 h2 => ?_), fun h => by omega⟩
    have et : tTab C = tPer C x ++ (tPer C y ++ tPer C z) := by
      unfold tTab
      rw [hord]
      simp
    rw [et, o_app_app, o_app_app]
    have cg := o_app_cg (cs := tPer C x ++ (tPer C y ++ tPer C z)) (M := M) (N := N) (fN 3 1 (by decide) (by decide)) (fun j => fN 4 j (by decide) (by decide))
    by_cases h4 : b = 4
    · subst h4
      exact cg.2 j
    · by_cases h3 : b = 3 ∧ j = 1
      · obtain ⟨rfl, rfl⟩ := h3
        exact cg.1
      · rw [o_app_n3 h3 h4, o_app_n3 h3 h4]
        exact fN b j h1 h2
  have cfr : ∀ {N : fx_M}, (∀ b j, b ≠ 69 → b ≠ 70 → N b j = M b j) → cct N C := fun f => by
    refine ⟨by rw [f _ _ (by decide) (by decide)]; exact hC.1, fun i t ht => ?_⟩
    obtain ⟨c1, c2, c3, c4, c5⟩ := hC.2 i t ht
    exact ⟨by rw [f _ _ (by decide) (by decide)]; exact c1, fun j c hc => by rw [f _ _ (by decide) (by decide)]; exact c2 j c hc, cz_fr c3 (fun b j h1 h2 => f b j (by omega) (by omega)), by rw [f _ _ (by decide) (by decide)]; exact c4, fun p hp => by rw [f _ _ (by decide) (by decide), f _ _ (by decide) (by decide)]; exact c5 p hp⟩
  refine s187 out3 (s187_2 out3 ⟨⟨by omega, by omega⟩, fun h => by omega, fun _ => ?_⟩)
  have e0 := sp_addUp3 (kc := kc) (d := d) (Q := fun v M1 => wp kc (d + 2) 187 12 [some (jR 62), some (jR 3), some (jI 0), none, none, none] (v.toList ++ []) M1 Q) (p := 0) hC ho (by omega) (fun M1 f1 a1 a2 => s187_12 out3 (s187_2 out3 ⟨⟨by omega, by omega⟩, fun h => by omega, fun _ => ?_⟩))
  · exact e0
  · have g1 : ∀ b j, b ≠ 69 → b ≠ 70 → M1 b j = M b j := fun b j h1 h2 => f1 b j (by omega)
    have e1 := sp_addUp3 (kc := kc) (d := d) (Q := fun v M2 => wp kc (d + 2) 187 12 [some (jR 62), some (jR 3), some (jI (0 + 1)), none, none, none] (v.toList ++ []) M2 Q) (p := 1) (cfr g1) ho (by omega) (fun M2 f2 a3 a4 => s187_12 out3 (s187_2 out3 ⟨⟨by omega, by omega⟩, fun h => by omega, fun _ => ?_⟩))
    · exact e1
    · have g2 : ∀ b j, b ≠ 69 → b ≠ 70 → M2 b j = M b j := fun b j h1 h2 => by rw [f2 b j (by omega), g1 b j h1 h2]
      have e2 := sp_addUp3 (kc := kc) (d := d) (Q := fun v M3 => wp kc (d + 2) 187 12 [some (jR 62), some (jR 3), some (jI (0 + 1 + 1)), none, none, none] (v.toList ++ []) M3 Q) (p := 2) (cfr g2) ho (by omega) (fun M3 f3 a5 a6 => s187_12 out3 (s187_2 out3 ⟨⟨by omega, by omega⟩, fun _ => fin M3 (fun b j h1 h2 => by rw [f3 b j (by omega), g2 b j h1 h2]) (fun p hp => ?_), fun h => by omega⟩))
      · exact e2
      · have hc : p = 0 ∨ p = 1 ∨ p = 2 := by omega
        rcases hc with e | e | e
        · subst e
          refine ⟨?_, ?_⟩
          · rw [f3 _ _ (by omega), f2 _ _ (by omega)]
            exact a1
          · rw [f3 _ _ (by omega), f2 _ _ (by omega)]
            exact a2
        · subst e
          refine ⟨?_, ?_⟩
          · rw [f3 _ _ (by omega)]
            exact a3
          · rw [f3 _ _ (by omega)]
            exact a4
        · subst e
          exact ⟨a5, a6⟩
end CTB
