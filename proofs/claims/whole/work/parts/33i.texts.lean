/-! The class reads a text, with a stronger frame: the name and the place of the book stay. -/
def tfS (s p : Nat) (M M' : fx_M) : Prop := (∀ b j, b ≠ s → b ≠ s + 3 → ¬ (p ≤ b ∧ b ≤ p + 8) → M' b j = M b j) ∧ M' s 2 = M s 2 ∧ ∀ j : Int, j = 0 ∨ j = 6 ∨ j = 7 ∨ j = 15 → M' s j = M s j
theorem tfS_rf (s p : Nat) (M : fx_M) : tfS s p M M := ⟨fun _ _ _ _ _ => rfl, rfl, fun _ _ => rfl⟩
theorem tfS_tr {s p : Nat} {M N P : fx_M} (h1 : tfS s p M N) (h2 : tfS s p N P) : tfS s p M P := ⟨fun b j a1 a2 a3 => by rw [h2.1 b j a1 a2 a3, h1.1 b j a1 a2 a3], by rw [h2.2.1, h1.2.1], fun j hj => by rw [h2.2.2 j hj, h1.2.2 j hj]⟩
def rfS (s : Nat) (M N : fx_M) : Prop := ∀ b j, ¬ (b = s ∧ j ≠ 0 ∧ j ≠ 2 ∧ j ≠ 4 ∧ j ≠ 6 ∧ j ≠ 7 ∧ j ≠ 15) → b ≠ s + 3 → N b j = M b j
theorem rfS_rfr {s : Nat} {M N : fx_M} (h : rfS s M N) : rfr s M N := fun b j a1 a2 => h b j (by omega) a2
theorem rfS_tfS {s p : Nat} {M N : fx_M} (h : rfS s M N) : tfS s p M N := ⟨fun b j a1 a2 _ => h b j (by omega) a2, h s 2 (by omega) (by omega), fun j hj => h s j (by omega) (by omega)⟩
theorem rfS_rf (s : Nat) (M : fx_M) : rfS s M M := fun _ _ _ _ => rfl
theorem rfS_rd {s : Nat} {M N : fx_M} {p w : Int} (h : rfS s M N) : rfS s M (rd N s p w) := fun b j a1 a2 => by rw [rd_ne (by omega), h b j a1 a2]
theorem rfS_up {s : Nat} {M N : fx_M} {k v : Int} (hk : k ≠ 0 ∧ k ≠ 2 ∧ k ≠ 4 ∧ k ≠ 6 ∧ k ≠ 7 ∧ k ≠ 15) (h : rfS s M N) : rfS s M (fx_up N s k v) := fun b j a1 a2 => by rw [fx_up_ne (by omega), h b j a1 a2]
theorem rfS_cl {s : Nat} {M N : fx_M} {k v : Int} (h : rfS s M N) : rfS s M (fx_up N (s + 3) k v) := fun b j a1 a2 => by rw [fx_up_na a2, h b j a1 a2]
section TYL
variable {L : Nat} {xs : Nat → Int32} {d s p a n : Nat} {Q : Option fx_V → fx_M → Prop} {rf : Int} {Z : PZ}
/-- behind an operation of the puzzle: its answer is what was refused -/
theorem ty_did {N P : fx_M} {b : Nat} {r : Int} {Z' : PZ} (Hs : fx_scn s) (Hp : fx_puz p) (hap : ¬ (p ≤ a ∧ a ≤ p + 8)) (h : tx_st N s p a n rf Z) (hb : rfa b r) (hz : cz P p Z') (ho : pz_ok Z') (hf : pfr p N P) : tx_st (fx_up P s 4 ((b : Nat) : Int)) s p a n r Z' ∧ tfS s p N (fx_up P s 4 ((b : Nat) : Int)) ∧ (fx_up P s 4 ((b : Nat) : Int)) s 1 = N s 1 ∧ (fx_up P s 4 ((b : Nat) : Int)) s 3 = N s 3 := by
  obtain ⟨⟨a0, a1, a2, a3, a4, a5, a6, a7, a8⟩, b1, b2, b3, b4⟩ := h
  have ha := scn_arr Hs a1
  have hd := scn_puz Hs Hp
  have e : ∀ j : Int, j ≠ 4 → (fx_up P s 4 ((b : Nat) : Int)) s j = N s j := fun j hj => by rw [fx_up_nk hj, hf s j hd.1]
  refine ⟨⟨⟨by rw [e 0 (by decide)]; exact a0, a1, a2, by rw [e 1 (by decide)]; exact a3, by rw [e 1 (by decide), e 2 (by decide)]; exact a4, by rw [e 2 (by decide)]; exact a5, by rw [e 3 (by decide)]; exact a6, by rw [e 3 (by decide)]; exact a7, fun j j0 j1 => by rw [fx_up_na ha, hf a j hap]; exact a8 j j0 j1⟩, by rw [fx_up_self]; omega, by rw [fx_up_self]; exact hb, ?_, ho⟩, ⟨fun c j c1 c2 c3 => by rw [fx_up_na c1, hf c j c3], e 2 (by decide), fun j hj => e j (by omega)⟩, e 1 (by decide), e 3 (by decide)⟩
  have f : ∀ (c : Nat) (j : Int), p ≤ c → c ≤ p + 8 → (fx_up P s 4 ((b : Nat) : Int)) c j = P c j := fun c j h1 h2 => fx_up_na (by omega)
  obtain ⟨z0, z1, z2, z3, z4, z5, z6, z7, z8, zw⟩ := hz
  refine ⟨by rw [f _ _ (by omega) (by omega)]; exact z0, by rw [f _ _ (by omega) (by omega)]; exact z1, by rw [f _ _ (by omega) (by omega)]; exact z2, by rw [f _ _ (by omega) (by omega)]; exact z3, by rw [f _ _ (by omega) (by omega)]; exact z4, fun r R hR => ?_, fun c hc => by rw [f _ _ (by omega) (by omega)]; exact z6 c hc, by rw [f _ _ (by omega) (by omega)]; exact z7, by rw [f _ _ (by omega) (by omega)]; exact z8, wys_fr zw (f _ _ (by omega) (by omega)) (fun j => f _ _ (by omega) (by omega))⟩
  obtain ⟨x1, x2, x3, x4, x5⟩ := z5 r R hR
  exact ⟨by rw [f _ _ (by omega) (by omega)]; exact x1, by rw [f _ _ (by omega) (by omega)]; exact x2, by rw [f _ _ (by omega) (by omega)]; exact x3, fun i hi => by rw [f _ _ (by omega) (by omega)]; exact x4 i hi, by rw [f _ _ (by omega) (by omega)]; exact x5⟩
/-- a part is done, where it is not wrong and nothing was refused before -/
theorem ty_do {N : fx_M} {v2 v3 : Int} {o : PO} (Hs : fx_scn s) (Hp : fx_puz p) (hap : ¬ (p ≤ a ∧ a ≤ p + 8)) (h : tx_st N s p a n rf Z) (h3 : N s 3 = 0) (hv : fx_in32 v3) (hpo : po_at N s v3 o) (K : ∀ P rf' Z', (rf' = if rf = 0 then (q_op Z o).1 else rf) → (Z' = if rf = 0 then (q_op Z o).2 else Z) → tx_st P s p a n rf' Z' → tfS s p N P → P s 1 = N s 1 → P s 3 = N s 3 → wp (kcs L xs) (d + 3) 49 85 [some (jR s), some (jR p), some (jI (v2 + 1)), none] [] P Q) : fx_lit (kcs L xs) ((N s 4).toNat) ∧ wc (kcs L xs) (d + 2) 50 [jR ((N s 4).toNat)] N (fun v M1 => wp (kcs L xs) (d + 3) 49 198 [some (jR s), some (jR p), some (jI v2), some (jI v3)] (v.toList ++ []) M1 Q) := by
  have h2 := h
  obtain ⟨hS, b1, b2, b3, b4⟩ := h
  have hd := scn_puz Hs Hp
  refine ⟨rfa_lit b2, sp_rfEmpty b2 ?_⟩
  by_cases hr : rf = 0
  · rw [if_pos hr]
    obtain ⟨p0, p1, p2, p3⟩ := hpo
    refine s49_198 Hs Hp ⟨i01.2, fun h => by omega, fun _ => ⟨hv, fun n0 => ⟨hv, fun n1 => ?_, fun e1 => ?_⟩, fun e0 => ?_⟩⟩
    · obtain ⟨c0, c1, c2, c3, c4, c5⟩ := p3 n0 n1
      rw [if_neg n0, if_neg n1] at p0
      have eq : q_op Z o = q_give Z o.2.2.2.2.1 o.2.2.2.2.2 := by
        unfold q_op
        rw [if_neg (by omega), if_neg (by omega)]
      rw [c0, c1]
      refine sp_giveQ Hp b3 b4 ⟨by omega, by omega⟩ ⟨by omega, by omega⟩ (by omega) (fun M' b r1 r2 r3 r4 => s49_269 Hs Hp ?_)
      obtain ⟨t1, t2, t3, t4⟩ := ty_did (b := b) Hs Hp hap h2 r1 r2 r3 r4
      exact K _ _ _ (by rw [if_pos hr, eq]) (by rw [if_pos hr, eq]) t1 t2 t3 t4
    · obtain ⟨c0, c1, c2, c3, c4, c5, c6, c7, c8⟩ := p2 e1
      rw [if_neg n0, if_pos e1] at p0
      have eq : q_op Z o = q_each Z o.2.2.2.2.1 o.2.1 o.2.2.1 := by
        unfold q_op
        rw [if_neg (by omega), if_pos p0]
      rw [c0, c1, c2]
      refine sp_addEachQ Hp b3 b4 ⟨c7, c8⟩ ⟨c3, c4⟩ ⟨c5, c6⟩ (fun M' b r1 r2 r3 r4 => s49_250 Hs Hp ?_)
      obtain ⟨t1, t2, t3, t4⟩ := ty_did (b := b) Hs Hp hap h2 r1 r2 r3 r4
      exact K _ _ _ (by rw [if_pos hr, eq]) (by rw [if_pos hr, eq]) t1 t2 t3 t4
    · obtain ⟨c0, c1, c2, c3, c4, c5, c6, c7, c8, c9⟩ := p1 e0
      rw [if_pos e0] at p0
      have eq : q_op Z o = q_rule Z o.2.1 o.2.2.1 o.2.2.2.1 := by
        unfold q_op
        rw [if_pos p0]
      rw [c0, c1, c2]
      refine sp_addRuleQ Hp (fx_a_cells Hs) ⟨by omega, by omega, by omega, by omega, by omega, by omega⟩ b3 b4 ⟨c3, c4⟩ ⟨c5, c6⟩ c7 c8 c9 (fun M' b r1 r2 r3 r4 => s49_226 Hs Hp ?_)
      obtain ⟨t1, t2, t3, t4⟩ := ty_did (b := b) Hs Hp hap h2 r1 r2 r3 (fun c j hc => r4 c j (by omega))
      exact K _ _ _ (by rw [if_pos hr, eq]) (by rw [if_pos hr, eq]) t1 t2 t3 t4
  · rw [if_neg hr]
    exact s49_198 Hs Hp ⟨i01.1, fun _ => K N rf Z (by rw [if_neg hr]) (by rw [if_neg hr]) h2 (tfS_rf s p N) rfl rfl, fun h => absurd rfl h⟩
theorem ty_loop (Hs : fx_scn s) (Hp : fx_puz p) (ha3 : a ≠ s + 3) (hap : ¬ (p ≤ a ∧ a ≤ p + 8)) : ∀ (f : Nat) (M : fx_M) (i rf : Int) (Z : PZ), tx_st M s p a n rf Z → (M s 3 = 0 → i ≤ M s 1) → 0 ≤ i → i ≤ M s 2 + 1 → M s 2 - M s 1 < f → (∀ M', tx_st M' s p a n (rTx (M a) (M s 2) f (M s 1) (M s 3) rf Z).2.2.1 (rTx (M a) (M s 2) f (M s 1) (M s 3) rf Z).2.2.2 → M' s 1 = (rTx (M a) (M s 2) f (M s 1) (M s 3) rf Z).1 → M' s 3 = (rTx (M a) (M s 2) f (M s 1) (M s 3) rf Z).2.1 → tfS s p M M' → Q none M') → wp (kcs L xs) (d + 6) 49 85 [some (jR s), some (jR p), some (jI i), none] [] M Q := by
  intro f
  induction f with
  | zero =>
    intro M i rf Z h hi h0 hie hf K
    have := sc_p h.1
    omega
  | succ f ih =>
    intro M i rf Z h hi h0 hie hf K
    have hS := h.1
    obtain ⟨a0, a1, a2, a3, a4, a5, a6, a7, a8⟩ := hS
    have ha := scn_arr Hs a1
    have hd := scn_puz Hs Hp
    have stop : ¬ (M s 3 = 0 ∧ M s 1 < M s 2 ∧ M a (M s 1) = 59) → Q none M := fun hn => by
      have e : rTx (M a) (M s 2) (f + 1) (M s 1) (M s 3) rf Z = (M s 1, M s 3, rf, Z) := by
        rw [rTx, if_neg hn]
      rw [e] at K
      exact K M h rfl rfl (tfS_rf s p M)
    refine s49_85 Hs Hp ⟨⟨⟨by omega, by omega⟩, ⟨by omega, by omega⟩⟩, fun hlt => stop (fun hx => by have := hi hx.1; omega), fun hle => sp_ahead Hs h.1 (by omega) (fun h1 h2 h3 => s49_99 Hs Hp ⟨i01.2, fun h => by omega, fun _ => ?_⟩) (fun hn => s49_99 Hs Hp ⟨i01.1, fun _ => stop hn, fun h => absurd rfl h⟩)⟩
    have hip := hi h1
    have eT : rTx (M a) (M s 2) (f + 1) (M s 1) (M s 3) rf Z = if (rPt (M a) (M s 2) (M s 1 + 1)).2.2 = 0 ∧ rf = 0 then rTx (M a) (M s 2) f (rPt (M a) (M s 2) (M s 1 + 1)).2.1 (rPt (M a) (M s 2) (M s 1 + 1)).2.2 (q_op Z (rPt (M a) (M s 2) (M s 1 + 1)).1).1 (q_op Z (rPt (M a) (M s 2) (M s 1 + 1)).1).2 else rTx (M a) (M s 2) f (rPt (M a) (M s 2) (M s 1 + 1)).2.1 (rPt (M a) (M s 2) (M s 1 + 1)).2.2 rf Z := by
      rw [rTx, if_pos ⟨h1, h2, h3⟩]
    rw [eT] at K
    clear eT stop
    have hpb := rPt_b (g := M a) (e := M s 2) (p := M s 1 + 1) (by omega)
    have fin : ∀ (N : fx_M) (v3 : Int), rfS s M N → N s 1 = (rPt (M a) (M s 2) (M s 1 + 1)).2.1 → N s 3 = (rPt (M a) (M s 2) (M s 1 + 1)).2.2 → (N s 3 = 0 → po_at N s v3 (rPt (M a) (M s 2) (M s 1 + 1)).1) → fx_in32 v3 → (fx_in32 (N s 3)) ∧ (N s 3 ≠ 0 → wp (kcs L xs) (d + 6) 49 85 [some (jR s), some (jR p), some (jI (i + 1)), none] [] N Q) ∧ (N s 3 = 0 → fx_lit (kcs L xs) ((N s 4).toNat) ∧ wc (kcs L xs) (d + 5) 50 [jR ((N s 4).toNat)] N (fun v M1 => wp (kcs L xs) (d + 6) 49 198 [some (jR s), some (jR p), some (jI i), some (jI v3)] (v.toList ++ []) M1 Q)) := by
      intro N v3 hr n1 n3 hpo hv
      have hN := tx_read Hs Hp ha3 h (rfS_rfr hr) (by omega) (by omega)
      have e2 : N s 2 = M s 2 := hr s 2 (by omega) (by omega)
      have ea : N a = M a := by
        funext j
        exact hr a j (by omega) ha3
      refine ⟨⟨by omega, by omega⟩, fun hne => ?_, fun h30 => ?_⟩
      · have hw1 : (rPt (M a) (M s 2) (M s 1 + 1)).2.2 = 1 := by omega
        rw [if_neg (by omega)] at K
        refine ih N (i + 1) rf Z hN (fun h => absurd h hne) (by omega) (by omega) (by omega) ?_
        rw [ea, e2, n1, n3]
        exact fun M' m1 m2 m3 m4 => K M' m1 m2 m3 (tfS_tr (rfS_tfS hr) m4)
      · refine ty_do (d := d + 3) Hs Hp hap hN h30 hv (hpo h30) (fun P rf' Z' hrf hZ hP fP p1 p3 => ?_)
        have e2P : P s 2 = M s 2 := by rw [fP.2.1, e2]
        have eaP : P a = M a := by
          funext j
          rw [fP.1 a j ha ha3 hap, ea]
        refine ih P (i + 1) rf' Z' hP (fun _ => by omega) (by omega) (by omega) (by omega) ?_
        rw [eaP, e2P, p1, p3, n1, n3]
        by_cases hr0 : rf = 0
        · rw [if_pos ⟨by omega, hr0⟩] at K
          rw [if_pos hr0] at hrf hZ
          rw [hrf, hZ]
          exact fun M' m1 m2 m3 m4 => K M' m1 m2 m3 (tfS_tr (rfS_tfS hr) (tfS_tr fP m4))
        · rw [if_neg (fun hx => hr0 hx.2)] at K
          rw [if_neg hr0] at hrf hZ
          rw [hrf, hZ]
          exact fun M' m1 m2 m3 m4 => K M' m1 m2 m3 (tfS_tr (rfS_tfS hr) (tfS_tr fP m4))
    clear K ih
    have eM1 : fx_up M s 1 (M s 1 + 1) = rd M s (M s 1 + 1) 0 := by rw [rd_p, h1]
    rw [eM1]
    have hS1 := sc_at_rd (p := M s 1 + 1) (w := 0) Hs h.1 (by omega) (by omega)
    have hg1 := rd_g (p := M s 1 + 1) (v := 0) Hs h.1
    refine sp_chooseR Hs lt_P hS1 ?_
    rw [hg1.1, hg1.2, rd_1, rd_3, rd_rd]
    have hcb := rC_b (g := M a) (e := M s 2) (bs := bsP) (p := M s 1 + 1) (w := 0) (by omega)
    have hcl : (rC (M a) (M s 2) bsP (M s 1 + 1) 0).1 < 3 := by
      unfold rC
      rw [if_pos rfl]
      exact chP
    unfold rPt at fin
    generalize rC (M a) (M s 2) bsP (M s 1 + 1) 0 = c at fin hcb hcl
    have hSC := sc_at_rd (p := c.2.1) (w := c.2.2) Hs h.1 (by omega) (by omega)
    have hgC := rd_g (p := c.2.1) (v := c.2.2) Hs h.1
    have rC0 : rfS s M (rd M s c.2.1 c.2.2) := rfS_rd (rfS_rf s M)
    refine s49_118 Hs Hp ⟨⟨by omega, by omega⟩, fun n0 => ⟨⟨by omega, by omega⟩, fun n1 => ?_, fun e1 => ?_⟩, fun e0 => ?_⟩
    · rw [if_neg n0, if_neg n1] at fin
      have b1 := rBN_b (g := M a) (e := M s 2) (m := 3) (p := c.2.1) (w := c.2.2) (by omega) (by omega)
      have t1 := rT_b (g := M a) (e := M s 2) (c := 32) (p := c.2.1) (w := c.2.2) (by omega)
      refine sp_take Hs hSC (by omega) (s49_156 Hs Hp ?_)
      rw [hgC.1, hgC.2, rd_1, rd_3, rd_rd]
      have hSt := sc_at_rd (p := (rT (M a) (M s 2) 32 c.2.1 c.2.2).1) (w := (rT (M a) (M s 2) 32 c.2.1 c.2.2).2) Hs h.1 (by omega) (by omega)
      have hgt := rd_g (p := (rT (M a) (M s 2) 32 c.2.1 c.2.2).1) (v := (rT (M a) (M s 2) 32 c.2.1 c.2.2).2) Hs h.1
      refine sp_num (m := 3) Hs hSt (by omega) ?_
      rw [hgt.1, hgt.2, rd_1, rd_3, rd_rd]
      show wp (kcs L xs) (d + 6) 49 166 [some (jR s), some (jR p), some (jI i), some (jI c.1)] [jI (rBN (M a) (M s 2) 3 c.2.1 c.2.2).1, jI 0, jR (s + 3)] (rd M s (rBN (M a) (M s 2) 3 c.2.1 c.2.2).2.1 (rBN (M a) (M s 2) 3 c.2.1 c.2.2).2.2) Q
      generalize rBN (M a) (M s 2) 3 c.2.1 c.2.2 = q at fin b1
      have e3 : ((10 ^ 3 : Nat) : Int) = 1000 := rfl
      refine s49_166 Hs Hp ⟨⟨by omega, by omega⟩, ?_⟩
      rw [up_rd (by omega)]
      have hSq : sc_at (fx_up M (s + 3) 0 q.1) s a n := sc_at_up h.1 (by omega) (by omega)
      have q2 : (fx_up M (s + 3) 0 q.1) s 2 = M s 2 := fx_up_na (by omega)
      have qa : (fx_up M (s + 3) 0 q.1) a = M a := by
        funext j
        exact fx_up_na ha3
      have hSr := sc_at_rd (p := q.2.1) (w := q.2.2) Hs hSq (by omega) (by omega)
      have hgr := rd_g (p := q.2.1) (v := q.2.2) Hs hSq
      have b2 := rBN_b (g := M a) (e := M s 2) (m := 1) (p := q.2.1) (w := q.2.2) (by omega) (by omega)
      have t2 := rT_b (g := M a) (e := M s 2) (c := 32) (p := q.2.1) (w := q.2.2) (by omega)
      refine sp_take Hs hSr (by omega) (s49_173 Hs Hp ?_)
      rw [hgr.1, hgr.2, rd_1, rd_3, rd_rd, qa, q2]
      have hSu := sc_at_rd (p := (rT (M a) (M s 2) 32 q.2.1 q.2.2).1) (w := (rT (M a) (M s 2) 32 q.2.1 q.2.2).2) Hs hSq (by omega) (by omega)
      have hgu := rd_g (p := (rT (M a) (M s 2) 32 q.2.1 q.2.2).1) (v := (rT (M a) (M s 2) 32 q.2.1 q.2.2).2) Hs hSq
      refine sp_num (m := 1) Hs hSu (by omega) ?_
      rw [hgu.1, hgu.2, rd_1, rd_3, rd_rd, qa, q2]
      show wp (kcs L xs) (d + 6) 49 183 [some (jR s), some (jR p), some (jI i), some (jI c.1)] [jI (rBN (M a) (M s 2) 1 q.2.1 q.2.2).1, jI 1, jR (s + 3)] (rd (fx_up M (s + 3) 0 q.1) s (rBN (M a) (M s 2) 1 q.2.1 q.2.2).2.1 (rBN (M a) (M s 2) 1 q.2.1 q.2.2).2.2) Q
      generalize rBN (M a) (M s 2) 1 q.2.1 q.2.2 = r at fin b2
      have e4 : ((10 ^ 1 : Nat) : Int) = 10 := rfl
      have eN : fx_up (rd (fx_up M (s + 3) 0 q.1) s r.2.1 r.2.2) (s + 3) 1 r.1 = rd (fx_up (fx_up M (s + 3) 0 q.1) (s + 3) 1 r.1) s r.2.1 r.2.2 := up_rd (by omega)
      have r3 : (rd (fx_up M (s + 3) 0 q.1) s r.2.1 r.2.2) s 3 = (rd (fx_up (fx_up M (s + 3) 0 q.1) (s + 3) 1 r.1) s r.2.1 r.2.2) s 3 := by rw [rd_3, rd_3]
      have r4 : (rd (fx_up M (s + 3) 0 q.1) s r.2.1 r.2.2) s 4 = (rd (fx_up (fx_up M (s + 3) 0 q.1) (s + 3) 1 r.1) s r.2.1 r.2.2) s 4 := by rw [rd_ne (by omega), rd_ne (by omega), fx_up_na (by omega), fx_up_na (by omega), fx_up_na (by omega)]
      refine s49_183 Hs Hp ⟨⟨by omega, by omega⟩, ?_⟩
      rw [eN, r3, r4]
      refine fin _ c.1 (rfS_rd (rfS_cl (rfS_cl (rfS_rf s M)))) (rd_1 _ _ _ _) (rd_3 _ _ _ _) (fun _ => ?_) ⟨by omega, by omega⟩
      refine ⟨by rw [if_neg n0, if_neg n1], fun h => absurd h n0, fun h => absurd h n1, fun _ _ => ⟨?_, ?_, by show 0 ≤ q.1; omega, by show q.1 < 1000; omega, by show 0 ≤ r.1; omega, by show r.1 < 1000; omega⟩⟩
      · rw [rd_ne (by omega), fx_up_nk (by decide), fx_up_self]
      · rw [rd_ne (by omega), fx_up_self]
    · rw [if_neg n0, if_pos e1] at fin
      have hsb := rSd_b (g := M a) (e := M s 2) (p := c.2.1) (w := c.2.2) (by omega)
      have hs0 := rSd_0 (g := M a) (e := M s 2) (p := c.2.1) (w := c.2.2)
      refine sp_side lt_S Hs hSC ?_
      rw [hgC.1, hgC.2, rd_1, rd_3, rd_rd]
      show wp (kcs L xs) (d + 6) 49 143 [some (jR s), some (jR p), some (jI i), some (jI c.1)] [] (fx_up (rd M s (rSd (M a) (M s 2) c.2.1 c.2.2).2.1 (rSd (M a) (M s 2) c.2.1 c.2.2).2.2) s 10 (rSd (M a) (M s 2) c.2.1 c.2.2).1) Q
      generalize rSd (M a) (M s 2) c.2.1 c.2.2 = q at fin hsb hs0
      rw [up_rd (by omega)]
      have hSq : sc_at (fx_up M s 10 q.1) s a n := sc_at_up h.1 (by omega) (by omega)
      have q2 : (fx_up M s 10 q.1) s 2 = M s 2 := fx_up_nk (by decide)
      have qa : (fx_up M s 10 q.1) a = M a := by
        funext j
        exact fx_up_na ha
      have hSr := sc_at_rd (p := q.2.1) (w := q.2.2) Hs hSq (by omega) (by omega)
      have hgr := rd_g (p := q.2.1) (v := q.2.2) Hs hSq
      have hkb := rK_b (g := M a) (e := M s 2) (bs := bsK) (p := q.2.1) (w := q.2.2) (by omega)
      have hk0 := rK_0 (g := M a) (e := M s 2) (p := q.2.1) (w := q.2.2)
      refine s49_143 Hs Hp (sp_kind lt_K Hs hSr ?_)
      rw [hgr.1, hgr.2, rd_1, rd_3, qa, q2]
      generalize rK (M a) (M s 2) bsK q.2.1 q.2.2 = r at fin hkb hk0
      rw [up_rd (by omega), up_rd (by omega), rd_rd]
      refine s49_147 Hs Hp ?_
      refine fin _ c.1 (rfS_rd (rfS_up (by omega) (rfS_up (by omega) (rfS_up (by omega) (rfS_rf s M))))) (rd_1 _ _ _ _) (rd_3 _ _ _ _) (fun hw => ?_) ⟨by omega, by omega⟩
      rw [rd_3] at hw
      have hk0 := hk0 hw
      have hs0 := hs0 hk0.2.2
      refine ⟨by rw [if_neg n0, if_pos e1], fun h => absurd h n0, fun _ => ⟨?_, ?_, ?_, hk0.1, hk0.2.1, hkb.2.2.1, hkb.2.2.2.1, hs0.1, hs0.2⟩, fun _ h => absurd e1 h⟩
      · rw [rd_ne (by omega), fx_up_nk (by decide), fx_up_nk (by decide), fx_up_self]
      · rw [rd_ne (by omega), fx_up_nk (by decide), fx_up_self]
      · rw [rd_ne (by omega), fx_up_self]
    · rw [if_pos e0] at fin
      have hkb := rK_b (g := M a) (e := M s 2) (bs := bsK) (p := c.2.1) (w := c.2.2) (by omega)
      have hk0 := rK_0 (g := M a) (e := M s 2) (p := c.2.1) (w := c.2.2)
      refine sp_kind lt_K Hs hSC ?_
      rw [hgC.1, hgC.2, rd_1, rd_3]
      generalize rK (M a) (M s 2) bsK c.2.1 c.2.2 = q at fin hkb hk0
      rw [up_rd (by omega), up_rd (by omega), rd_rd]
      have hSq : sc_at (fx_up (fx_up M s 11 q.1) s 12 q.2.1) s a n := sc_at_up (sc_at_up h.1 (by omega) (by omega)) (by omega) (by omega)
      have q2 : (fx_up (fx_up M s 11 q.1) s 12 q.2.1) s 2 = M s 2 := by rw [fx_up_nk (by decide), fx_up_nk (by decide)]
      have qa : (fx_up (fx_up M s 11 q.1) s 12 q.2.1) a = M a := by
        funext j
        rw [fx_up_na ha, fx_up_na ha]
      have hSr := sc_at_rd (p := q.2.2.1) (w := q.2.2.2) Hs hSq (by omega) (by omega)
      have hgr := rd_g (p := q.2.2.1) (v := q.2.2.2) Hs hSq
      refine s49_127 Hs Hp (sp_ruleCells Hs hSr ha3 ?_)
      rw [hgr.1, hgr.2, rd_1, rd_3, qa, q2]
      have hrb := rR_b (g := M a) (e := M s 2) ((M s 2 - q.2.2.1).toNat + 1) true q.2.2.1 q.2.2.2 (by omega) (by omega) (by omega)
      have hrl := rR_l (g := M a) (e := M s 2) ((M s 2 - q.2.2.1).toNat + 1) true q.2.2.1 q.2.2.2 (by omega)
      have hrw := rR_w0 (g := M a) (e := M s 2) (f := (M s 2 - q.2.2.1).toNat + 1) (b := true) (p := q.2.2.1) (w := q.2.2.2)
      generalize rR (M a) (M s 2) ((M s 2 - q.2.2.1).toNat + 1) true q.2.2.1 q.2.2.2 = r at fin hrb hrl hrw
      rw [up_rd (by omega), wcl_rd, rd_rd]
      refine s49_131 Hs Hp ?_
      refine fin _ c.1 (rfS_rd (fun b j c1 c2 => ?_)) (rd_1 _ _ _ _) (rd_3 _ _ _ _) (fun hw => ?_) ⟨by omega, by omega⟩
      · rw [wcl_fr _ _ _ b j (by omega) c2, fx_up_ne (by omega), fx_up_ne (by omega), fx_up_ne (by omega)]
      · rw [rd_3] at hw
        have hk0 := hk0 (hrw hw)
        have f14 : (fx_up (fx_up (fx_up M s 11 q.1) s 12 q.2.1) s 14 0) s 14 = 0 := fx_up_self _ _ _ _
        refine ⟨by rw [if_pos e0], fun _ => ⟨?_, ?_, ?_, hk0.1, hk0.2.1, hkb.2.2.1, hkb.2.2.2.1, by show r.1.length ≤ 100000; omega, fun j x hj hj4 => ?_, hrl.1⟩, fun h => by omega, fun h => absurd e0 h⟩
        · rw [rd_ne (by omega), wcl_fr _ _ _ _ _ (by omega) (by omega), fx_up_nk (by decide), fx_up_nk (by decide), fx_up_self]
        · rw [rd_ne (by omega), wcl_fr _ _ _ _ _ (by omega) (by omega), fx_up_nk (by decide), fx_up_self]
        · rw [rd_ne (by omega), wcl_len _ _ _ f14]
          show (0 : Int) + (r.1.length : Int) = (r.1.length : Int)
          omega
        · rw [rd_ne (by omega)]
          have := wcl_at r.1 0 (fx_up (fx_up (fx_up M s 11 q.1) s 12 q.2.1) s 14 0) (s := s) j x hj (by omega) (by omega)
          rwa [show (0 : Int) + (j : Int) = j by omega] at this
end TYL
section TYM
variable {L : Nat} {xs : Nat → Int32} {d s p a n : Nat} {Q : Option fx_V → fx_M → Prop} {rf : Int} {Z : PZ} {M : fx_M}
theorem sp_textS (Hs : fx_scn s) (Hp : fx_puz p) (ha3 : a ≠ s + 3) (hap : ¬ (p ≤ a ∧ a ≤ p + 8)) (h : tx_st M s p a n rf Z) (K : ∀ M', tx_st M' s p a n (rText (M a) (M s 2) (M s 1) (M s 3) rf Z).2.2.1 (rText (M a) (M s 2) (M s 1) (M s 3) rf Z).2.2.2 → M' s 1 = (rText (M a) (M s 2) (M s 1) (M s 3) rf Z).1 → M' s 3 = (rText (M a) (M s 2) (M s 1) (M s 3) rf Z).2.1 → tfS s p M M' → Q none M') : wc (kcs L xs) (d + 6) 49 [jR s, jR p] M Q := by
  have hS := h.1
  have hp := sc_p hS
  have ha := scn_arr Hs hS.2.1
  have hn5 : M s 2 ≤ n ∧ n ≤ 100000 := ⟨hS.2.2.2.2.2.1, hS.2.2.1⟩
  have h3b : 0 ≤ M s 3 ∧ M s 3 ≤ 1 := ⟨hS.2.2.2.2.2.2.1, hS.2.2.2.2.2.2.2.1⟩
  refine s49 Hs Hp (sp_chooseR Hs lt_N hS (s49_6 Hs Hp ?_))
  have hcb := rC_b (g := M a) (e := M s 2) (bs := bsN) (p := M s 1) (w := M s 3) hp.1
  unfold rText rZ3 rZ2 rZ1 at K
  generalize rC (M a) (M s 2) bsN (M s 1) (M s 3) = c at K hcb
  have e4 : ((10 ^ 1 : Nat) : Int) = 10 := rfl
  have hS0 := sc_at_rd (p := c.2.1) (w := c.2.2) Hs hS (by omega) (by omega)
  have hg0 := rd_g (p := c.2.1) (v := c.2.2) Hs hS
  have b1 := rBN_b (g := M a) (e := M s 2) (m := 1) (p := c.2.1) (w := c.2.2) (by omega) (by omega)
  refine tx_size (d := d + 4) (q := c.2.1) (w := c.2.2) Hs hS0 ha3 (by omega) (rd_1 _ _ _ _) (rd_3 _ _ _ _) ?_ Hp
  rw [hg0.1, hg0.2, up_rd (by omega), rd_rd]
  generalize rBN (M a) (M s 2) 1 c.2.1 c.2.2 = z1 at K b1
  have hS1 : sc_at (fx_up M (s + 3) 0 z1.1) s a n := sc_at_up hS (by omega) (by omega)
  have g1 : (fx_up M (s + 3) 0 z1.1) a = M a := by
    funext j
    exact fx_up_na ha3
  have g2 : (fx_up M (s + 3) 0 z1.1) s 2 = M s 2 := fx_up_na (by omega)
  have hS1' := sc_at_rd (p := z1.2.1) (w := z1.2.2) Hs hS1 (by omega) (by omega)
  have hg1 := rd_g (p := z1.2.1) (v := z1.2.2) Hs hS1
  have b2 := rBN_b (g := M a) (e := M s 2) (m := 1) (p := z1.2.1) (w := z1.2.2) (by omega) (by omega)
  refine tx_size (d := d + 4) (q := z1.2.1) (w := z1.2.2) Hs hS1' ha3 (by omega) (rd_1 _ _ _ _) (rd_3 _ _ _ _) ?_ Hp
  rw [hg1.1, hg1.2, g1, g2, up_rd (by omega), rd_rd]
  generalize rBN (M a) (M s 2) 1 z1.2.1 z1.2.2 = z2 at K b2
  have hS2 : sc_at (fx_up (fx_up M (s + 3) 0 z1.1) (s + 3) (0 + 1) z2.1) s a n := sc_at_up hS1 (by omega) (by omega)
  have k1 : (fx_up (fx_up M (s + 3) 0 z1.1) (s + 3) (0 + 1) z2.1) a = M a := by
    funext j
    rw [fx_up_na ha3, g1]
  have k2 : (fx_up (fx_up M (s + 3) 0 z1.1) (s + 3) (0 + 1) z2.1) s 2 = M s 2 := by rw [fx_up_na (by omega), g2]
  have hS2' := sc_at_rd (p := z2.2.1) (w := z2.2.2) Hs hS2 (by omega) (by omega)
  have hg2 := rd_g (p := z2.2.1) (v := z2.2.2) Hs hS2
  have b3 := rBN_b (g := M a) (e := M s 2) (m := 1) (p := z2.2.1) (w := z2.2.2) (by omega) (by omega)
  refine tx_size (d := d + 4) (q := z2.2.1) (w := z2.2.2) Hs hS2' ha3 (by omega) (rd_1 _ _ _ _) (rd_3 _ _ _ _) ?_ Hp
  rw [hg2.1, hg2.2, k1, k2, up_rd (by omega), rd_rd]
  generalize rBN (M a) (M s 2) 1 z2.2.1 z2.2.2 = z3 at K b3
  have rN : rfS s M (rd (fx_up (fx_up (fx_up M (s + 3) 0 z1.1) (s + 3) (0 + 1) z2.1) (s + 3) (0 + 1 + 1) z3.1) s z3.2.1 z3.2.2) := rfS_rd (rfS_cl (rfS_cl (rfS_cl (rfS_rf s M))))
  have c0 : (rd (fx_up (fx_up (fx_up M (s + 3) 0 z1.1) (s + 3) (0 + 1) z2.1) (s + 3) (0 + 1 + 1) z3.1) s z3.2.1 z3.2.2) (s + 3) 0 = z1.1 := by rw [rd_ne (by omega), fx_up_nk (by decide), fx_up_nk (by decide), fx_up_self]
  have c1 : (rd (fx_up (fx_up (fx_up M (s + 3) 0 z1.1) (s + 3) (0 + 1) z2.1) (s + 3) (0 + 1 + 1) z3.1) s z3.2.1 z3.2.2) (s + 3) 1 = z2.1 := by rw [rd_ne (by omega), fx_up_nk (by decide)]; exact fx_up_self _ _ _ _
  have c2 : (rd (fx_up (fx_up (fx_up M (s + 3) 0 z1.1) (s + 3) (0 + 1) z2.1) (s + 3) (0 + 1 + 1) z3.1) s z3.2.1 z3.2.2) (s + 3) 2 = z3.1 := by rw [rd_ne (by omega)]; exact fx_up_self _ _ _ _
  have n1 : (rd (fx_up (fx_up (fx_up M (s + 3) 0 z1.1) (s + 3) (0 + 1) z2.1) (s + 3) (0 + 1 + 1) z3.1) s z3.2.1 z3.2.2) s 1 = z3.2.1 := rd_1 _ _ _ _
  have n3 : (rd (fx_up (fx_up (fx_up M (s + 3) 0 z1.1) (s + 3) (0 + 1) z2.1) (s + 3) (0 + 1 + 1) z3.1) s z3.2.1 z3.2.2) s 3 = z3.2.2 := rd_3 _ _ _ _
  generalize rd (fx_up (fx_up (fx_up M (s + 3) 0 z1.1) (s + 3) (0 + 1) z2.1) (s + 3) (0 + 1 + 1) z3.1) s z3.2.1 z3.2.2 = N at rN c0 c1 c2 n1 n3
  have hN := tx_read Hs Hp ha3 h (rfS_rfr rN) (by omega) (by omega)
  have n2 : N s 2 = M s 2 := rN s 2 (by omega) (by omega)
  have na : N a = M a := by
    funext j
    exact rN a j (by omega) ha3
  have go : ¬ (z3.2.2 = 0 ∧ rf = 0) → wp (kcs L xs) (d + 6) 49 85 [some (jR s), some (jR p), some (jI (N s 1)), none] [] N Q := by
    intro hn
    rw [if_neg hn] at K
    refine ty_loop (d := d) Hs Hp ha3 hap ((M s 2 - z3.2.1).toNat + 1) N (N s 1) rf Z hN (fun _ => Int.le_refl _) (by omega) (by omega) (by omega) ?_
    rw [na, n1, n2, n3]
    exact fun M' m1 m2 m3 m4 => K M' m1 m2 m3 (tfS_tr (rfS_tfS rN) m4)
  refine s49_9 Hs Hp ⟨⟨by omega, by omega⟩, fun _ => ⟨⟨by omega, by omega⟩, fun hw => go (by omega), fun hw => ⟨rfa_lit hN.2.2.1, sp_rfEmpty hN.2.2.1 ?_⟩⟩, fun h => by omega⟩
  by_cases hr0 : rf = 0
  · rw [if_pos hr0]
    refine s49_51 Hs Hp ⟨i01.2, fun h => by omega, fun _ => ?_⟩
    rw [c0, c1, c2]
    rw [if_pos ⟨by omega, hr0⟩] at K
    refine sp_renewQ Hp hN.2.2.2.1 hN.2.2.2.2 ⟨by omega, by omega⟩ ⟨by omega, by omega⟩ ⟨by omega, by omega⟩ (fun P b r1 r2 r3 r4 => s49_77 Hs Hp ?_)
    obtain ⟨t1, t2, t3, t4⟩ := ty_did (b := b) Hs Hp hap hN r1 r2 r3 r4
    have hps : P s 1 = N s 1 := r4 s 1 (scn_puz Hs Hp).1
    rw [hps]
    have e2P : (fx_up P s 4 ((b : Nat) : Int)) s 2 = M s 2 := by rw [t2.2.1, n2]
    have eaP : (fx_up P s 4 ((b : Nat) : Int)) a = M a := by
      funext j
      rw [t2.1 a j ha ha3 hap, na]
    refine ty_loop (d := d) Hs Hp ha3 hap ((M s 2 - z3.2.1).toNat + 1) _ (N s 1) _ _ t1 (fun _ => by omega) (by omega) (by omega) (by omega) ?_
    rw [eaP, e2P, t3, t4, n1, n3]
    exact fun M' m1 m2 m3 m4 => K M' m1 m2 m3 (tfS_tr (rfS_tfS rN) (tfS_tr t2 m4))
  · rw [if_neg hr0]
    exact s49_51 Hs Hp ⟨i01.1, fun _ => go (fun hx => hr0 hx.2), fun h => absurd rfl h⟩
end TYM
